/-! ===== rows of sets: the object's side ===== -/
theorem olp_gen {σ ρ : Type} {f : σ → Option (σ ⊕ ρ)} (P : ρ → Prop) (I : Nat → σ → Prop) (k : Nat) (hs : ∀ i s, i < k → I i s → (∃ t, f s = some (.inl t) ∧ I (i + 1) t) ∨ (∃ r, f s = some (.inr r) ∧ P r)) (hx : ∀ s, I k s → ∃ r, f s = some (.inr r) ∧ P r) : ∀ (n i : Nat) (s : σ), i ≤ k → k - i < n → I i s → ∃ r, olp f n s = some r ∧ P r := by
  intro n
  induction n with
  | zero => intro i s h1 h2; omega
  | succ n ih =>
    intro i s h1 h2 h3
    unfold olp
    by_cases hik : i < k
    · rcases hs i s hik h3 with ⟨t, e, h4⟩ | ⟨r, e, h4⟩
      · rw [e]
        exact ih (i + 1) t hik (by omega) h4
      · rw [e]
        exact ⟨r, rfl, h4⟩
    · have : i = k := by omega
      subst this
      obtain ⟨r, e, h4⟩ := hx s h3
      rw [e]
      exact ⟨r, rfl, h4⟩
def rowC (c : Int32) (f : Nat → Int32) (Ls : List Int32) : Prop := c = nI Ls.length ∧ Ls.length ≤ 12 ∧ ∀ (k : Nat) (x : Int32), Ls[k]? = some x → f k = x
theorem rowC_lt {c : Int32} {f : Nat → Int32} {Ls : List Int32} (h : rowC c f Ls) {k : Nat} (hk : k < Ls.length) : Ls[k]? = some (f k) := by
  rw [List.getElem?_eq_getElem hk, h.2.2 k _ (List.getElem?_eq_getElem hk)]
theorem gather_ok (p1 qc : Int32) (qf : Nat → Int32) : ∃ c f, fX5_gather p1 qc qf = some (c, f) ∧ rowC c f [p1] := by
  refine ⟨_, _, rfl, rfl, by simp, fun k x hx => ?_⟩
  cases k with
  | zero => simp at hx; simp [upd, hx]
  | succ k => simp at hx
theorem copy_ok {uc : Int32} {uf : Nat → Int32} {Ls : List Int32} (h : rowC uc uf Ls) (qc : Int32) (qf : Nat → Int32) : ∃ c f, fX5_copyFrom qc qf uc uf = some (c, f) ∧ rowC c f Ls := by
  refine ⟨_, _, rfl, h.1, h.2.1, fun k x hx => ?_⟩
  have hk : k < Ls.length := (List.getElem?_eq_some_iff.mp hx).1
  rw [pk_cpy_in (Nat.zero_le _) (by have := h.2.1; omega)]
  simpa using h.2.2 k x hx
theorem hasPlace_in {c : Int32} {f : Nat → Int32} {Ls : List Int32} (h : rowC c f Ls) {j : Nat} (hj : j < Ls.length) : fX5_hasPlace (nI j) c f = some 1 := by
  have := h.2.1
  unfold fX5_hasPlace
  rw [if_neg (zn0 (by omega)), h.1, if_neg (by rw [zle (by omega) (by omega)]; omega)]
theorem hasPlace_out {c : Int32} {f : Nat → Int32} {Ls : List Int32} (h : rowC c f Ls) {x : Int32} (hx : x < 0 ∨ nI Ls.length ≤ x) : fX5_hasPlace x c f = some 0 := by
  unfold fX5_hasPlace
  by_cases h0 : x < 0
  · rw [if_pos h0]
  · rw [if_neg h0, h.1, if_pos (hx.resolve_left h0)]
theorem setAt_in {c : Int32} {f : Nat → Int32} {Ls : List Int32} (h : rowC c f Ls) {j : Nat} {x : Int32} (hx : Ls[j]? = some x) : fX5_setAt (nI j) c f = some x := by
  have hj : j < Ls.length := (List.getElem?_eq_some_iff.mp hx).1
  have := h.2.1
  unfold fX5_setAt
  rw [hasPlace_in h hj]
  simp only [ob1]
  rw [if_neg (by decide), ogd_ok (by omega) (by omega), zcl (by omega), h.2.2 j x hx]
theorem setAt_out {c : Int32} {f : Nat → Int32} {Ls : List Int32} (h : rowC c f Ls) {x : Int32} (hx : x < 0 ∨ nI Ls.length ≤ x) : fX5_setAt x c f = some 0 := by
  unfold fX5_setAt
  rw [hasPlace_out h hx]
  rfl
theorem place_ok {c : Int32} {f : Nat → Int32} {Ls : List Int32} (h : rowC c f Ls) {i : Nat} (hi : i < 32) : fX5_placeOf (nI i) c f = some (zpI (zpos Ls i)) := by
  have hl := h.2.1
  have key : ∀ j x, Ls[j]? = some x → fX5_placeOf_s2 c f (nI i) (nI j) = if bt x i = true then some (.inr (nI j)) else some (.inl (nI (j + 1))) := by
    intro j x hx
    have hj : j < Ls.length := (List.getElem?_eq_some_iff.mp hx).1
    unfold fX5_placeOf_s2 fX5_placeOf_b2
    rw [h.1, if_neg (by rw [zle (by omega) (by omega)]; omega), ogd_ok (by omega) (by omega), zcl (by omega), h.2.2 j x hx, zb_bit x hi, nI_1]
    cases bt x i
    · simp
    · simp
  unfold fX5_placeOf
  cases hp : zpos Ls i with
  | none =>
    have hn := zpos_none.mp hp
    refine zloop1 Ls.length (by omega) (fun j hj => ?_) ?_
    · have hx := List.getElem?_eq_getElem hj
      rw [key j _ hx]
      have := hn j hj
      rw [List.getD_eq_getElem?_getD, hx] at this
      simp at this
      rw [this]
      simp
    · unfold fX5_placeOf_s2 fX5_placeOf_b2
      rw [h.1, if_pos (by rw [zle (by omega) (by omega)]; omega)]
      rfl
  | some k =>
    obtain ⟨h1, h2, h3⟩ := zpos_some.mp hp
    refine zloop1 k (by omega) (fun j hj => ?_) ?_
    · have hx := List.getElem?_eq_getElem (show j < Ls.length by omega)
      rw [key j _ hx]
      have := h3 j hj
      rw [List.getD_eq_getElem?_getD, hx] at this
      simp at this
      rw [this]
      simp
    · have hx := List.getElem?_eq_getElem h1
      rw [key k _ hx]
      rw [List.getD_eq_getElem?_getD, hx] at h2
      simp at h2
      rw [h2]
      simp [zpI]
theorem open_ok {C k : Nat} (hk : k ≤ C) (hC : C < 12) (qf : Nat → Int32) : fX5_openPlace (nI k) (nI C) qf = some (nI (C + 1), fun j => if k < j ∧ j ≤ C then qf (j - 1) else qf j) := by
  unfold fX5_openPlace
  have hlp : olp (fX5_openPlace_s5 (nI k)) oFu (nI C, qf) = some (fun j => if k < j ∧ j ≤ C then qf (j - 1) else qf j) := by
    refine olp_for (fun i s => i ≤ C - k ∧ s = (nI (C - i), fun j => if C - i < j ∧ j ≤ C then qf (j - 1) else qf j)) (C - k) ?_ ?_ oFu 0 _ (Nat.zero_le _) (oFu_big (by omega)) ⟨Nat.zero_le _, ?_⟩
    · rintro i s hi ⟨h1, rfl⟩
      refine ⟨_, ?_, by omega, rfl⟩
      obtain ⟨q, hq⟩ : ∃ q, C - i = q + 1 := ⟨C - i - 1, by omega⟩
      unfold fX5_openPlace_s5 fX5_openPlace_b5
      dsimp only
      rw [hq, if_neg (by rw [zle (by omega) (by omega)]; omega), nI_pred, ogd_ok (by omega) (by omega), ogd_ok (by omega) (by omega), zcl (by omega), zcl (by omega), pk_m1, show C - (i + 1) = q by omega]
      congr 3
      funext j
      simp only [upd]
      by_cases hj : j = q + 1
      · subst hj
        rw [if_pos rfl, if_neg (by omega), if_pos ⟨by omega, by omega⟩, Nat.add_sub_cancel]
      · simp only [if_neg hj]
        by_cases h2 : q + 1 < j ∧ j ≤ C
        · rw [if_pos h2, if_pos ⟨by omega, h2.2⟩]
        · rw [if_neg h2, if_neg (by omega)]
    · rintro s ⟨_, rfl⟩
      unfold fX5_openPlace_s5 fX5_openPlace_b5
      dsimp only
      rw [if_pos (by rw [zle (by omega) (by omega)]; omega), show C - (C - k) = k by omega]
    · congr 1
      funext j
      rw [if_neg (by omega)]
  rw [hlp]
  simp only [ob1]
  rw [nI_1]
theorem close_ok {C k : Nat} (hk : k < C) (hC : C ≤ 12) (qf : Nat → Int32) : fX5_closePlace (nI k) (nI C) qf = some (nI (C - 1), fun j => if k ≤ j ∧ j < C - 1 then qf (j + 1) else qf j) := by
  unfold fX5_closePlace
  obtain ⟨c, rfl⟩ : ∃ c, C = c + 1 := ⟨C - 1, by omega⟩
  have hlp : olp (fX5_closePlace_s12 (nI (c + 1))) oFu (nI k, qf) = some (fun j => if k ≤ j ∧ j < c then qf (j + 1) else qf j) := by
    have := zloop (f := fX5_closePlace_s12 (nI (c + 1))) (r := fun j => if k ≤ j ∧ j < c then qf (j + 1) else qf j) c (fun i j => if k ≤ j ∧ j < i then qf (j + 1) else qf j) k (by omega) (by omega) ?_ ?_
    · have e0 : (fun j => if k ≤ j ∧ j < k then qf (j + 1) else qf j) = qf := by
        funext j
        rw [if_neg (by omega)]
      rw [e0] at this
      exact this
    · intro i h1 h2
      unfold fX5_closePlace_s12 fX5_closePlace_b12
      dsimp only
      rw [nI_pred, if_neg (by rw [zle (by omega) (by omega)]; omega), nI_1, ogd_ok (by omega) (by omega), ogd_ok (by omega) (by omega), zcl (by omega), zcl (by omega)]
      congr 3
      funext j
      simp only [upd]
      by_cases hj : j = i
      · subst hj
        rw [if_pos rfl, if_neg (by omega), if_pos ⟨by omega, by omega⟩]
      · simp only [if_neg hj]
        by_cases h3 : k ≤ j ∧ j < i
        · rw [if_pos h3, if_pos ⟨h3.1, by omega⟩]
        · rw [if_neg h3, if_neg (by omega)]
    · unfold fX5_closePlace_s12 fX5_closePlace_b12
      dsimp only
      rw [nI_pred, if_pos (by rw [zle (by omega) (by omega)]; omega)]
  rw [hlp]
  simp only [ob1, Nat.add_sub_cancel]
  rw [nI_pred]
