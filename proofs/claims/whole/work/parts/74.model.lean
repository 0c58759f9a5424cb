theorem ob1_of {α ρ : Type} {a : Option α} {b : α → Option ρ} {x : α} {r : ρ} (h : a = some x) (hb : b x = some r) : ob1 a b = some r := by rw [h]; exact hb
theorem ob2_of {α β ρ : Type} {a : Option (α × β)} {b : α → β → Option ρ} {x : α} {y : β} {r : ρ} (h : a = some (x, y)) (hb : b x y = some r) : ob2 a b = some r := by rw [h]; exact hb
theorem ob3_of {α β γ ρ : Type} {a : Option (α × β × γ)} {b : α → β → γ → Option ρ} {x : α} {y : β} {z : γ} {r : ρ} (h : a = some (x, y, z)) (hb : b x y z = some r) : ob3 a b = some r := by rw [h]; exact hb
/-- the greatest class number so far -/
def zmx (row : Nat → Int32) : Nat → Int32
  | 0 => -1
  | n + 1 => if row n ≤ zmx row n then zmx row n else row n
theorem zle_m1 {x : Int32} : x ≤ -1 ↔ x < 0 := by
  rw [Int32.le_iff_toInt_le, Int32.lt_iff_toInt_lt]
  show x.toInt ≤ -1 ↔ x.toInt < 0
  omega
theorem zmx_ok {row : Nat → Int32} {C : Nat} (hC : C < 100) : ∀ n, (∀ i, i < n → row i = -1 ∨ ∃ k, k < C ∧ row i = nI k) → (zmx row n = -1 ∧ (∀ i, i < n → row i = -1)) ∨ ∃ k, k < C ∧ zmx row n = nI k ∧ (∃ i, i < n ∧ row i = nI k) ∧ ∀ i j, i < n → row i = nI j → j < C → j ≤ k := by
  intro n
  induction n with
  | zero => intro _; exact Or.inl ⟨rfl, fun i hi => absurd hi (Nat.not_lt_zero i)⟩
  | succ n ih =>
    intro h
    have hn := h n (by omega)
    rcases ih (fun i hi => h i (by omega)) with ⟨e, h2⟩ | ⟨k, hk, e, h2, h3⟩
    · rcases hn with hn | ⟨j, hj, hn⟩
      · left
        refine ⟨?_, fun i hi => ?_⟩
        · rw [zmx, e, hn]; rfl
        · by_cases hin : i = n
          · rw [hin, hn]
          · exact h2 i (by omega)
      · right
        refine ⟨j, hj, ?_, ⟨n, by omega, hn⟩, fun i q hi hq hqC => ?_⟩
        · rw [zmx, e, hn, if_neg (by rw [zle_m1]; exact zn0 (by omega))]
        · by_cases hin : i = n
          · rw [hin, hn, zeq (by omega) (by omega)] at hq
            omega
          · rw [h2 i (by omega)] at hq
            exact absurd hq.symm (zne1 (by omega))
    · right
      rcases hn with hn | ⟨j, hj, hn⟩
      · refine ⟨k, hk, ?_, h2.imp (fun i hi => ⟨by omega, hi.2⟩), fun i q hi hq hqC => ?_⟩
        · rw [zmx, e, hn, if_pos (by
            rw [Int32.le_iff_toInt_le, nI_toInt (by omega)]
            show (-1 : Int) ≤ _
            omega)]
        · by_cases hin : i = n
          · rw [hin, hn] at hq
            exact absurd hq.symm (zne1 (by omega))
          · exact h3 i q (by omega) hq hqC
      · by_cases hjk : j ≤ k
        · refine ⟨k, hk, ?_, h2.imp (fun i hi => ⟨by omega, hi.2⟩), fun i q hi hq hqC => ?_⟩
          · rw [zmx, e, hn, if_pos (by rw [zle (by omega) (by omega)]; exact hjk)]
          · by_cases hin : i = n
            · rw [hin, hn, zeq (by omega) (by omega)] at hq
              omega
            · exact h3 i q (by omega) hq hqC
        · refine ⟨j, hj, ?_, ⟨n, by omega, hn⟩, fun i q hi hq hqC => ?_⟩
          · rw [zmx, e, hn, if_neg (by rw [zle (by omega) (by omega)]; exact hjk)]
          · by_cases hin : i = n
            · rw [hin, hn, zeq (by omega) (by omega)] at hq
              omega
            · have := h3 i q (by omega) hq hqC
              omega
/-- of each item the number of its class, as the reference has it -/
def rowM (N : Nat) (row : Nat → Int32) (Ls : List Int32) : Prop := ∀ i, i < N → row i = zpI (zpos Ls i)
theorem zpos_lt {Ls : List Int32} {i k : Nat} (h : zpos Ls i = some k) : k < Ls.length := (zpos_some.mp h).1
theorem zpos_bt {Ls : List Int32} {i k : Nat} {x : Int32} (h : zpos Ls i = some k) (hx : Ls[k]? = some x) : bt x i = true := by
  have := (zpos_some.mp h).2.1
  rw [List.getD_eq_getElem?_getD, hx] at this
  exact this
theorem zpos_of {N : Nat} {Ls : List Int32} (hok : zok N Ls) {i k : Nat} {x : Int32} (hi : i < 32) (hx : Ls[k]? = some x) (hb : bt x i = true) : zpos Ls i = some k := by
  have hk := (List.getElem?_eq_some_iff.mp hx).1
  refine zpos_some.mpr ⟨hk, by rw [List.getD_eq_getElem?_getD, hx]; exact hb, fun j hj => ?_⟩
  rw [List.getD_eq_getElem?_getD, List.getElem?_eq_getElem (show j < Ls.length by omega)]
  have hp := List.pairwise_iff_getElem.mp hok.2 j k (by omega) hk hj
  cases hc : bt Ls[j] i with
  | false => exact hc
  | true =>
    have := hp i hi hc
    rw [List.getElem?_eq_getElem hk] at hx
    rw [Option.some.inj hx, hb] at this
    cases this
theorem rowM_cls {N : Nat} {row : Nat → Int32} {Ls : List Int32} (hN : N ≤ 12) (h : rowM N row Ls) (hok : zok N Ls) : zmx row N + 1 = nI Ls.length := by
  have hl := zok_len hok
  rcases zmx_ok (row := row) (C := Ls.length) (by omega) N (fun i hi => by
    rw [h i hi]
    cases hp : zpos Ls i with
    | none => exact Or.inl rfl
    | some k => exact Or.inr ⟨k, zpos_lt hp, rfl⟩) with ⟨e, h2⟩ | ⟨k, hk, e, -, h3⟩
  · rw [e]
    have : Ls.length = 0 := by
      cases Ls with
      | nil => rfl
      | cons x xs =>
        obtain ⟨a1, a2, -⟩ := zlst_ok (hok.1 x List.mem_cons_self).1
        have hlt := (hok.1 x List.mem_cons_self).2 _ a1 a2
        have h4 := h _ hlt
        rw [h2 _ hlt, zpos_of hok a1 (k := 0) rfl a2] at h4
        exact absurd h4.symm (zne1 (by omega))
    rw [this]
    rfl
  · rw [e, nI_1]
    congr 1
    obtain ⟨x, hx⟩ : ∃ x, Ls[Ls.length - 1]? = some x := ⟨_, List.getElem?_eq_getElem (by omega)⟩
    obtain ⟨a1, a2, -⟩ := zlst_ok (hok.1 x (List.mem_of_getElem? hx)).1
    have hlt := (hok.1 x (List.mem_of_getElem? hx)).2 _ a1 a2
    have := h3 _ (Ls.length - 1) hlt (by rw [h _ hlt, zpos_of hok a1 hx a2]; rfl) (by omega)
    omega
theorem rowM_mem {N : Nat} {row : Nat → Int32} {Ls : List Int32} (hN : N ≤ 12) (h : rowM N row Ls) (hok : zok N Ls) {k : Nat} {x : Int32} (hx : Ls[k]? = some x) : zmk (fun i => decide (row i = nI k)) N = x := by
  have hl := zok_len hok
  have hk := (List.getElem?_eq_some_iff.mp hx).1
  apply b_ext
  intro i hi
  rw [zb_mk _ N (by omega) i hi]
  by_cases hiN : i < N
  · simp only [hiN, decide_true, Bool.true_and]
    rw [h i hiN]
    cases hb : bt x i with
    | true => rw [zpos_of hok hi hx hb]; simp [zpI]
    | false =>
      cases hp : zpos Ls i with
      | none => exact decide_eq_false (fun e : (-1 : Int32) = nI k => zne1 (show k < 2 ^ 31 by omega) e.symm)
      | some j =>
        have hj := zpos_lt hp
        refine decide_eq_false (fun e => ?_)
        have e : nI j = nI k := e
        rw [zeq (by omega) (by omega)] at e
        subst e
        rw [zpos_bt hp hx] at hb
        cases hb
  · simp only [hiN, decide_false, Bool.false_and]
    cases hb : bt x i with
    | false => rfl
    | true => exact absurd ((hok.1 x (List.mem_of_getElem? hx)).2 i hi hb) hiN
theorem gives_ok {N : Nat} (hN : N ≤ 12) {st : Nat → Int32} (h0 : st 0 = nI N) (set p4 d s e : Int32) (nr : Nat → Int32) : fX9_gives 0 set p4 d s e st nr = some (fun j => if j < N ∧ bt set j = true then p4 else nr j) := by
  unfold fX9_gives
  refine ob1_of (zloop N (fun i j => if j < i ∧ bt set j = true then p4 else nr j) 0 (Nat.zero_le _) (by omega) ?_ ?_) rfl
  · intro i _ hi
    unfold fX9_gives_s3 fX9_gives_b3
    dsimp only
    rw [h0, if_neg (by rw [zle (by omega) (by omega)]; omega), has_ok set (show i < 32 by omega)]
    have ea : (0 : Int32) + nI i = nI i := by rw [show (0 : Int32) = nI 0 from rfl, nI_add]; congr 1; omega
    simp only [ob1]
    rw [ea, ogd_ok (by omega) (by omega), zcl (by omega), nI_1]
    cases hb : bt set i
    · simp only [Bool.false_eq_true, if_false, if_true]
      rw [ogd_ok (by omega) (by omega)]
      congr 3
      funext j
      simp only [upd]
      by_cases hj : j = i
      · subst hj
        simp [hb]
      · rw [if_neg hj]
        by_cases h5 : j < i ∧ bt set j = true
        · rw [if_pos h5, if_pos ⟨by omega, h5.2⟩]
        · rw [if_neg h5, if_neg (fun q => h5 ⟨by omega, q.2⟩)]
    · simp only [if_true]
      rw [if_neg (by decide)]
      simp only
      rw [ogd_ok (by omega) (by omega)]
      congr 3
      funext j
      simp only [upd]
      by_cases hj : j = i
      · subst hj
        simp [hb]
      · rw [if_neg hj]
        by_cases h5 : j < i ∧ bt set j = true
        · rw [if_pos h5, if_pos ⟨by omega, h5.2⟩]
        · rw [if_neg h5, if_neg (fun q => h5 ⟨by omega, q.2⟩)]
  · unfold fX9_gives_s3 fX9_gives_b3
    dsimp only
    rw [h0, if_pos (by rw [zle (by omega) (by omega)]; omega)]
theorem members_ok {N at_ : Nat} (hN : N ≤ 12) (hat : at_ + 12 ≤ 76) {st : Nat → Int32} (h0 : st 0 = nI N) (k d s e : Int32) : fX9_membersOf (nI at_) k d s e st = some (zmk (fun i => decide (st (at_ + i) = k)) N) := by
  unfold fX9_membersOf
  refine ob1_of (zloop N (fun i => zmk (fun i => decide (st (at_ + i) = k)) i) 0 (Nat.zero_le _) (by omega) ?_ ?_) rfl
  · intro i _ hi
    unfold fX9_membersOf_s6 fX9_membersOf_b6
    dsimp only
    rw [h0, if_neg (by rw [zle (by omega) (by omega)]; omega), nI_add, ogd_ok (by omega) (by omega), zcl (by omega), nI_1, zmk]
    by_cases hr : st (at_ + i) = k
    · simp [hr]
    · simp [hr]
  · unfold fX9_membersOf_s6 fX9_membersOf_b6
    dsimp only
    rw [h0, if_pos (by rw [zle (by omega) (by omega)]; omega)]
theorem classes_ok {N at_ : Nat} (hN : N ≤ 12) (hat : at_ + 12 ≤ 76) {st : Nat → Int32} (h0 : st 0 = nI N) (d s e : Int32) : fX9_classes (nI at_) d s e st = some (zmx (fun i => st (at_ + i)) N + 1) := by
  unfold fX9_classes
  refine ob1_of (zloop N (fun i => zmx (fun i => st (at_ + i)) i) 0 (Nat.zero_le _) (by omega) ?_ ?_) rfl
  · intro i _ hi
    unfold fX9_classes_s5 fX9_classes_b5
    dsimp only
    rw [h0, if_neg (by rw [zle (by omega) (by omega)]; omega), nI_add, ogd_ok (by omega) (by omega), zcl (by omega), nI_1, zmx]
    by_cases hr : st (at_ + i) ≤ zmx (fun i => st (at_ + i)) i
    · rw [if_pos hr, if_pos hr]
    · rw [if_neg hr, if_neg hr, ogd_ok (by omega) (by omega)]
  · unfold fX9_classes_s5 fX9_classes_b5
    dsimp only
    rw [h0, if_pos (by rw [zle (by omega) (by omega)]; omega)]
theorem members_ok_a {N at_ : Nat} (hN : N ≤ 12) (hat : at_ + 12 ≤ 12) {st asd : Nat → Int32} (h0 : st 0 = nI N) (k d s e : Int32) : fX9_membersOf_a (nI at_) k d s e st asd = some (zmk (fun i => decide (asd (at_ + i) = k)) N) := by
  unfold fX9_membersOf_a
  refine ob1_of (zloop N (fun i => zmk (fun i => decide (asd (at_ + i) = k)) i) 0 (Nat.zero_le _) (by omega) ?_ ?_) rfl
  · intro i _ hi
    unfold fX9_membersOf_a_s6 fX9_membersOf_a_b6
    dsimp only
    rw [h0, if_neg (by rw [zle (by omega) (by omega)]; omega), nI_add, ogd_ok (by omega) (by omega), zcl (by omega), nI_1, zmk]
    by_cases hr : asd (at_ + i) = k
    · simp [hr]
    · simp [hr]
  · unfold fX9_membersOf_a_s6 fX9_membersOf_a_b6
    dsimp only
    rw [h0, if_pos (by rw [zle (by omega) (by omega)]; omega)]
theorem classes_ok_a {N at_ : Nat} (hN : N ≤ 12) (hat : at_ + 12 ≤ 12) {st asd : Nat → Int32} (h0 : st 0 = nI N) (d s e : Int32) : fX9_classes_a (nI at_) d s e st asd = some (zmx (fun i => asd (at_ + i)) N + 1) := by
  unfold fX9_classes_a
  refine ob1_of (zloop N (fun i => zmx (fun i => asd (at_ + i)) i) 0 (Nat.zero_le _) (by omega) ?_ ?_) rfl
  · intro i _ hi
    unfold fX9_classes_a_s5 fX9_classes_a_b5
    dsimp only
    rw [h0, if_neg (by rw [zle (by omega) (by omega)]; omega), nI_add, ogd_ok (by omega) (by omega), zcl (by omega), nI_1, zmx]
    by_cases hr : asd (at_ + i) ≤ zmx (fun i => asd (at_ + i)) i
    · rw [if_pos hr, if_pos hr]
    · rw [if_neg hr, if_neg hr, ogd_ok (by omega) (by omega)]
  · unfold fX9_classes_a_s5 fX9_classes_a_b5
    dsimp only
    rw [h0, if_pos (by rw [zle (by omega) (by omega)]; omega)]
