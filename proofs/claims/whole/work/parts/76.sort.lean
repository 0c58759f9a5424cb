/-! ===== classes in the order of their least items ===== -/
def zsorted (Ls : List Int32) : Prop := Ls.Pairwise (fun x y => zlst x < zlst y)
theorem zok_perm {N : Nat} {A B : List Int32} (hp : A.Perm B) (h : zok N A) : zok N B := by
  refine ⟨fun x hx => h.1 x (hp.mem_iff.mpr hx), ?_⟩
  refine (hp.pairwise_iff ?_).mp h.2
  intro x y hxy i hi hb
  cases hc : bt x i with
  | false => rfl
  | true => rw [hxy i hi hc] at hb; cases hb
theorem zok_sublist {N : Nat} {A B : List Int32} (hs : A.Sublist B) (h : zok N B) : zok N A := ⟨fun x hx => h.1 x (hs.subset hx), h.2.sublist hs⟩
theorem zok_sub {N : Nat} {Ls : List Int32} (h : zok N Ls) (hN : N ≤ 12) {x : Int32} (hx : x ∈ Ls) : zsub 12 x := fun i hi hb => Nat.lt_of_lt_of_le ((h.1 x hx).2 i hi hb) hN
theorem zlst_ne {N : Nat} {A B : List Int32} {x y : Int32} (h : zok N (A ++ B)) (hx : x ∈ A) (hy : y ∈ B) : zlst x ≠ zlst y := by
  intro e
  obtain ⟨a1, a2, -⟩ := zlst_ok (h.1 x (List.mem_append_left _ hx)).1
  obtain ⟨b1, b2, -⟩ := zlst_ok (h.1 y (List.mem_append_right _ hy)).1
  rw [← e, (List.pairwise_append.mp h.2).2.2 x hx y hy _ a1 a2] at b2
  cases b2
theorem sort_in {N : Nat} (hN : N ≤ 12) {c : Int32} {f : Nat → Int32} {S R : List Int32} {x : Int32} (h : rowC c f (S ++ x :: R)) (hok : zok N (S ++ x :: R)) (hso : zsorted S) : ∃ a, a ≤ S.length ∧ olp (fX5_sortByLeast_s19 f (nI S.length)) oFu (nI S.length, f) = some (nI a, fun k => if a < k ∧ k ≤ S.length then f (k - 1) else f k) ∧ (∀ j y, a ≤ j → S[j]? = some y → zlst x < zlst y) ∧ (∀ j y, j < a → S[j]? = some y → zlst y < zlst x) := by
  have hl := h.2.1
  simp only [List.length_append, List.length_cons] at hl
  have hfx : f S.length = x := h.2.2 _ _ (by rw [List.getElem?_append_right (Nat.le_refl _)]; simp)
  have hfS : ∀ j y, S[j]? = some y → f j = y := fun j y hy => h.2.2 j y (by
    rw [List.getElem?_append_left (List.getElem?_eq_some_iff.mp hy).1]
    exact hy)
  have hxs := zok_sub hok hN (show x ∈ S ++ x :: R by simp)
  have hx0 := (hok.1 x (by simp)).1
  have key := olp_gen (f := fX5_sortByLeast_s19 f (nI S.length)) (fun (r : Int32 × (Nat → Int32)) => ∃ a, a ≤ S.length ∧ r = (nI a, fun k => if a < k ∧ k ≤ S.length then f (k - 1) else f k) ∧ (∀ j y, a ≤ j → S[j]? = some y → zlst x < zlst y) ∧ (a = 0 ∨ ∃ y, S[a - 1]? = some y ∧ zlst y < zlst x)) (fun i (st : Int32 × (Nat → Int32)) => i ≤ S.length ∧ st = (nI (S.length - i), fun k => if S.length - i < k ∧ k ≤ S.length then f (k - 1) else f k) ∧ (∀ j y, S.length - i ≤ j → S[j]? = some y → zlst x < zlst y)) S.length ?_ ?_ oFu 0 (nI S.length, f) (Nat.zero_le _) (oFu_big (by omega)) ⟨Nat.zero_le _, ?_, ?_⟩
  · obtain ⟨r, e, a, h1, h2, h3, h4⟩ := key
    subst h2
    refine ⟨a, h1, e, h3, ?_⟩
    rcases h4 with h4 | ⟨y, hy, hyx⟩
    · intro j y hj; omega
    · intro j z hj hz
      by_cases e1 : j = a - 1
      · subst e1
        rw [hy] at hz
        cases hz
        exact hyx
      · have hp := List.pairwise_iff_getElem.mp hso j (a - 1) (List.getElem?_eq_some_iff.mp hz).1 (List.getElem?_eq_some_iff.mp hy).1 (by omega)
        rw [(List.getElem?_eq_some_iff.mp hz).2, (List.getElem?_eq_some_iff.mp hy).2] at hp
        omega
  · rintro i st hi ⟨h1, rfl, h3⟩
    obtain ⟨a, ha⟩ : ∃ a, S.length - i = a + 1 := ⟨S.length - i - 1, by omega⟩
    have ha2 : S.length - (i + 1) = a := by omega
    simp only [ha] at h3 ⊢
    simp only [ha2]
    obtain ⟨y, hy⟩ : ∃ y, S[a]? = some y := ⟨_, List.getElem?_eq_getElem (by omega)⟩
    have hym : y ∈ S := List.mem_of_getElem? hy
    have hys := zok_sub hok hN (show y ∈ S ++ x :: R by simp [hym])
    have hy0 := (hok.1 y (by simp [hym])).1
    have hne : zlst y ≠ zlst x := zlst_ne hok hym List.mem_cons_self
    have hlx := (zlst_ok hx0).1
    have hly := (zlst_ok hy0).1
    unfold fX5_sortByLeast_s19 fX5_sortByLeast_b19
    dsimp only
    rw [show (0 : Int32) = nI 0 from rfl, if_neg (by rw [zle (by omega) (by omega)]; omega), nI_pred, ogd_ok (by omega) (by omega), zcl (by omega), if_neg (by omega), hfS a y hy, least_ok hys hy0]
    simp only [ob1]
    rw [zcl (by omega), hfx, least_ok hxs hx0]
    simp only
    by_cases hc : zlst y ≤ zlst x
    · right
      rw [if_pos (by rw [zle (by omega) (by omega)]; exact hc)]
      refine ⟨_, rfl, a + 1, by omega, rfl, h3, Or.inr ⟨y, by simpa using hy, by omega⟩⟩
    · left
      rw [if_neg (by rw [zle (by omega) (by omega)]; exact hc), ogd_ok (by omega) (by omega), ogd_ok (by omega) (by omega), zcl (by omega), pk_m1]
      refine ⟨_, rfl, by omega, ?_, ?_⟩
      · congr 1
        funext k
        simp only [upd]
        by_cases hk : k = a + 1
        · subst hk
          rw [if_pos rfl, if_pos ⟨by omega, by omega⟩, Nat.add_sub_cancel, hfS a y hy]
        · rw [if_neg hk]
          by_cases h5 : a + 1 < k ∧ k ≤ S.length
          · rw [if_pos h5, if_pos ⟨by omega, h5.2⟩]
          · rw [if_neg h5, if_neg (by omega)]
      · intro j z hj hz
        by_cases e1 : j = a
        · subst e1
          rw [hy] at hz
          cases hz
          omega
        · exact h3 j z (by omega) hz
  · rintro st ⟨-, rfl, h3⟩
    simp only [Nat.sub_self] at h3 ⊢
    unfold fX5_sortByLeast_s19 fX5_sortByLeast_b19
    dsimp only
    rw [if_pos (by decide)]
    exact ⟨_, rfl, 0, by omega, rfl, h3, Or.inl rfl⟩
  · rw [Nat.sub_zero]
    congr 1
    funext k
    rw [if_neg (by omega)]
  · intro j y hj hy
    have := (List.getElem?_eq_some_iff.mp hy).1
    omega
theorem sort_ok {N : Nat} (hN : N ≤ 12) {c : Int32} {f : Nat → Int32} {Ls : List Int32} (h : rowC c f Ls) (hok : zok N Ls) : ∃ f2 L2, fX5_sortByLeast c f = some f2 ∧ rowC c f2 L2 ∧ L2.Perm Ls ∧ zsorted L2 := by
  have hl := h.2.1
  unfold fX5_sortByLeast
  have key := olp_gen (f := fX5_sortByLeast_s2 c) (fun (r : Nat → Int32) => ∃ L2, rowC c r L2 ∧ L2.Perm Ls ∧ zsorted L2) (fun i (st : Int32 × (Nat → Int32)) => st.1 = nI (i + 1) ∧ ∃ S R, rowC c st.2 (S ++ R) ∧ (S ++ R).Perm Ls ∧ zsorted S ∧ S.length = min (i + 1) Ls.length) (Ls.length - 1) ?_ ?_ oFu 0 (1, f) (Nat.zero_le _) (oFu_big (by omega)) ⟨rfl, Ls.take 1, Ls.drop 1, by rw [List.take_append_drop]; exact h, by rw [List.take_append_drop], ?_, by rw [List.length_take]⟩
  · obtain ⟨r, e, L2, h1, h2, h3⟩ := key
    rw [e]
    exact ⟨r, L2, rfl, h1, h2, h3⟩
  · rintro i ⟨x1, qf⟩ hi ⟨h1, S, R, h2, h3, h4, h5⟩
    left
    dsimp only at h1 h2
    subst h1
    have h5 : S.length = i + 1 := by omega
    have hlen := h3.length_eq
    simp only [List.length_append] at hlen
    obtain ⟨x, R2, rfl⟩ : ∃ x R2, R = x :: R2 := by
      cases R with
      | nil => simp at hlen; omega
      | cons x R2 => exact ⟨x, R2, rfl⟩
    have hok2 := zok_perm h3.symm hok
    obtain ⟨a, ha, e, g1, g2⟩ := sort_in hN h2 hok2 h4
    rw [h5] at e ha
    have hfx : qf (i + 1) = x := h2.2.2 _ _ (by rw [List.getElem?_append_right (by omega), h5]; simp)
    unfold fX5_sortByLeast_s2 fX5_sortByLeast_b2
    dsimp only
    have hcn : ¬ c ≤ nI (i + 1) := by rw [h.1, zle (by omega) (by omega)]; omega
    rw [if_neg hcn, ogd_ok (by omega) (by omega), e]
    simp only [ob2]
    rw [ogd_ok (by omega) (by omega), zcl (by omega), zcl (by omega), hfx, nI_1]
    refine ⟨_, rfl, rfl, S.take a ++ x :: S.drop a, R2, ?_, ?_, ?_, ?_⟩
    · have e1 : (S.take a ++ x :: S.drop a).length = S.length + 1 := by
        simp only [List.length_append, List.length_cons, List.length_take, List.length_drop]
        omega
      refine ⟨?_, ?_, ?_⟩
      · rw [h2.1]
        congr 1
        simp only [List.length_append, List.length_cons, List.length_take, List.length_drop]
        omega
      · have := h2.2.1
        simp only [List.length_append, List.length_cons, List.length_take, List.length_drop] at this ⊢
        omega
      · intro k y hy
        have htl : (S.take a).length = a := by rw [List.length_take]; omega
        simp only [upd]
        rw [List.append_assoc] at hy
        by_cases k1 : k = a
        · subst k1
          rw [if_pos rfl]
          rw [List.getElem?_append_right (by omega), htl] at hy
          simp at hy
          exact hy
        rw [if_neg k1]
        by_cases k2 : k < a
        · rw [if_neg (by omega)]
          rw [List.getElem?_append_left (by omega), List.getElem?_take_of_lt k2] at hy
          refine h2.2.2 k y ?_
          rw [List.getElem?_append_left (by omega)]
          exact hy
        · obtain ⟨q, rfl⟩ : ∃ q, k = a + 1 + q := ⟨k - a - 1, by omega⟩
          rw [List.getElem?_append_right (by omega), htl, show a + 1 + q - a = q + 1 by omega, List.cons_append, List.getElem?_cons_succ] at hy
          by_cases k3 : a + 1 + q ≤ i + 1
          · rw [if_pos ⟨by omega, k3⟩]
            refine h2.2.2 _ y ?_
            rw [List.getElem?_append_left (by rw [List.length_drop]; omega), List.getElem?_drop] at hy
            rw [List.getElem?_append_left (by omega), show a + 1 + q - 1 = a + q by omega]
            exact hy
          · rw [if_neg (by omega)]
            refine h2.2.2 _ y ?_
            rw [List.getElem?_append_right (by rw [List.length_drop]; omega), List.length_drop] at hy
            rw [List.getElem?_append_right (by omega), h5, show a + 1 + q - (i + 1) = (q - (i + 1 - a)) + 1 by omega, List.getElem?_cons_succ]
            rw [h5] at hy
            exact hy
    · refine List.Perm.trans ?_ h3
      rw [List.append_assoc]
      have e1 : S ++ x :: R2 = S.take a ++ (S.drop a ++ x :: R2) := by rw [← List.append_assoc, List.take_append_drop]
      rw [e1]
      refine List.Perm.append_left _ ?_
      rw [List.cons_append]
      exact List.perm_middle.symm
    · unfold zsorted
      have hst : zsorted (S.take a ++ S.drop a) := by rw [List.take_append_drop]; exact h4
      obtain ⟨p1, p2, p3⟩ := List.pairwise_append.mp hst
      rw [List.pairwise_append, List.pairwise_cons]
      refine ⟨p1, ⟨fun y hy => ?_, p2⟩, fun y hy z hz => ?_⟩
      · obtain ⟨j, hj⟩ := List.getElem?_of_mem hy
        rw [List.getElem?_drop] at hj
        exact g1 _ y (by omega) hj
      · rcases List.mem_cons.mp hz with rfl | hz
        · obtain ⟨j, hj⟩ := List.getElem?_of_mem hy
          have hja := (List.getElem?_eq_some_iff.mp hj).1
          rw [List.length_take] at hja
          rw [List.getElem?_take_of_lt (by omega)] at hj
          exact g2 j y (by omega) hj
        · exact p3 y hy z hz
    · simp only [List.length_append, List.length_cons, List.length_take, List.length_drop]
      omega
  · rintro ⟨x1, qf⟩ ⟨h1, S, R, h2, h3, h4, h5⟩
    dsimp only at h1 h2
    subst h1
    have hlen := h3.length_eq
    simp only [List.length_append] at hlen
    have hR : R = [] := by
      apply List.eq_nil_of_length_eq_zero
      omega
    subst hR
    unfold fX5_sortByLeast_s2 fX5_sortByLeast_b2
    dsimp only
    have hcp : c ≤ nI (Ls.length - 1 + 1) := by rw [h.1, zle (by omega) (by omega)]; omega
    rw [if_pos hcp]
    rw [List.append_nil] at h2 h3
    exact ⟨_, rfl, S, h2, h3, h4⟩
  · cases Ls with
    | nil => simp [zsorted]
    | cons x xs => simp [zsorted]
theorem zfil_succ {L : List Int32} (h : zsorted L) (i : Nat) : L.filter (fun y => decide (zlst y < i + 1)) = L.filter (fun y => decide (zlst y < i)) ++ L.filter (fun y => decide (zlst y = i)) := by
  induction L with
  | nil => rfl
  | cons x xs ih =>
    obtain ⟨h1, h2⟩ := List.pairwise_cons.mp h
    have ih := ih h2
    rcases Nat.lt_trichotomy (zlst x) i with hx | hx | hx
    · rw [List.filter_cons_of_pos (by simp; omega), List.filter_cons_of_pos (by simp; omega), List.filter_cons_of_neg (by simp; omega), ih]
      rfl
    · have e1 : xs.filter (fun y => decide (zlst y < i)) = [] := by
        rw [List.filter_eq_nil_iff]
        intro y hy
        have := h1 y hy
        simp
        omega
      rw [List.filter_cons_of_pos (by simp; omega), List.filter_cons_of_neg (by simp; omega), List.filter_cons_of_pos (by simp; omega), ih, e1]
      rfl
    · have e1 : xs.filter (fun y => decide (zlst y < i)) = [] := by
        rw [List.filter_eq_nil_iff]
        intro y hy
        have := h1 y hy
        simp
        omega
      rw [List.filter_cons_of_neg (by simp; omega), List.filter_cons_of_neg (by simp; omega), List.filter_cons_of_neg (by simp; omega), ih]
theorem zfil_one {L : List Int32} (h : zsorted L) {x : Int32} (hx : x ∈ L) : L.filter (fun y => decide (zlst y = zlst x)) = [x] := by
  induction L with
  | nil => simp at hx
  | cons y ys ih =>
    obtain ⟨h1, h2⟩ := List.pairwise_cons.mp h
    rcases List.mem_cons.mp hx with rfl | hx
    · rw [List.filter_cons_of_pos (by simp)]
      congr 1
      rw [List.filter_eq_nil_iff]
      intro z hz
      have := h1 z hz
      simp
      omega
    · have := h1 x hx
      rw [List.filter_cons_of_neg (by simp; omega), ih h2 hx]
theorem arranges_ok {N at_ : Nat} (hN : N ≤ 12) (hat : at_ + 12 ≤ 76) {st : Nat → Int32} (h0 : st 0 = nI N) {Ls L2 : List Int32} (hr : rowM N (fun i => st (at_ + i)) Ls) (hok : zok N Ls) (hcov : ∀ i, i < N → zpos Ls i ≠ none) (hp : L2.Perm Ls) (hso : zsorted L2) (d s e : Int32) (nr : Nat → Int32) : ∃ nr2, fX9_arranges (nI at_) d s e st nr = some ((fun j => if at_ ≤ j ∧ j < at_ + 12 then nr2 (j - at_) else st j), nr2) ∧ rowM N nr2 L2 := by
  have hl := zok_len hok
  have hok2 := zok_perm hp.symm hok
  have hl2 := hp.length_eq
  refine ⟨fun j => (zpos L2 j).elim (if 0 ≤ j ∧ j < 0 + 12 then st (at_ + (j - 0)) else nr j) nI, ?_, ?_⟩
  · unfold fX9_arranges
    refine ob1_of (bring_ok (a := at_) (b := 0) (n := 12) (by omega) (by omega) (by omega) (by omega) (by omega) st nr) ?_
    have key := zloop (f := fX9_arranges_s17 st (nI at_) d s e) (r := fun j => (zpos L2 j).elim (if 0 ≤ j ∧ j < 0 + 12 then st (at_ + (j - 0)) else nr j) nI) N (fun i => (nI (L2.filter (fun y => decide (zlst y < i))).length, fun j => (zpos (L2.filter (fun y => decide (zlst y < i))) j).elim (if 0 ≤ j ∧ j < 0 + 12 then st (at_ + (j - 0)) else nr j) nI)) 0 (Nat.zero_le _) (by omega) ?_ ?_
    · have e0 : L2.filter (fun y => decide (zlst y < 0)) = [] := by
        rw [List.filter_eq_nil_iff]
        intro y _
        simp
      rw [e0] at key
      refine ob1_of key ?_
      refine ob1_of (bring_ok (a := 0) (b := at_) (n := 12) (by omega) (by omega) (by omega) (by omega) (by omega) _ st) ?_
      simp only [Nat.zero_add]
    · intro i _ hi
      obtain ⟨k, hk⟩ : ∃ k, zpos Ls i = some k := by
        cases hz : zpos Ls i with
        | none => exact absurd hz (hcov i hi)
        | some k => exact ⟨k, rfl⟩
      have hkl := zpos_lt hk
      obtain ⟨x, hx⟩ : ∃ x, Ls[k]? = some x := ⟨_, List.getElem?_eq_getElem hkl⟩
      have hxm := List.mem_of_getElem? hx
      have hx0 := (hok.1 x hxm).1
      have hb := zpos_bt hk hx
      have hri : st (at_ + i) = nI k := by have := hr i hi; rw [hk] at this; exact this
      have hcond : (x &&& (((1 : Int32) <<< (nI i &&& 31)) - 1)) = 0 ↔ zlst x = i := by
        rw [zb_z]
        constructor
        · intro h
          refine zlst_uniq (by omega) hb (fun j hj => ?_)
          have := h j (by omega)
          rw [b_and, zb_all (by omega) (by omega), decide_eq_true hj, Bool.and_true] at this
          exact this
        · intro h j hj
          rw [b_and, zb_all (by omega) hj]
          by_cases hji : j < i
          · rw [(zlst_ok hx0).2.2 j (by omega)]
            rfl
          · rw [decide_eq_false hji, Bool.and_false]
      rw [zfil_succ hso i]
      unfold fX9_arranges_s17 fX9_arranges_b17
      dsimp only
      rw [h0, if_neg (by rw [zle (by omega) (by omega)]; omega), nI_add, ogd_ok (by omega) (by omega), zcl (by omega), hri, members_ok hN hat h0, rowM_mem hN hr hok hx]
      simp only [ob1]
      by_cases hc : zlst x = i
      · rw [if_pos (hcond.mpr hc), gives_ok hN h0]
        have e1 : L2.filter (fun y => decide (zlst y = i)) = [x] := by
          rw [← hc]
          exact zfil_one hso (hp.mem_iff.mpr hxm)
        have hokf : zok N (L2.filter (fun y => decide (zlst y < i)) ++ [x]) := by
          rw [← e1, ← zfil_succ hso i]
          exact zok_sublist List.filter_sublist hok2
        rw [e1, give_step hokf]
        simp only [List.length_append, List.length_cons, List.length_nil, nI_1]
      · rw [if_neg (fun q => hc (hcond.mp q))]
        have e1 : L2.filter (fun y => decide (zlst y = i)) = [] := by
          rw [List.filter_eq_nil_iff]
          intro y hy
          simp only [decide_eq_true_eq]
          intro hyi
          have hy2 := hp.mem_iff.mp hy
          obtain ⟨q, hq⟩ := List.getElem?_of_mem hy2
          obtain ⟨b1, b2, -⟩ := zlst_ok (hok.1 y hy2).1
          rw [hyi] at b2
          have := zpos_of hok (by omega) hq b2
          rw [hk] at this
          cases this
          rw [hx] at hq
          cases hq
          exact hc hyi
        rw [e1, List.append_nil, nI_1]
    · unfold fX9_arranges_s17 fX9_arranges_b17
      dsimp only
      rw [h0, if_pos (by rw [zle (by omega) (by omega)]; omega)]
      have e1 : L2.filter (fun y => decide (zlst y < N)) = L2 := by
        rw [List.filter_eq_self]
        intro y hy
        obtain ⟨b1, b2, -⟩ := zlst_ok (hok2.1 y hy).1
        simpa using (hok2.1 y hy).2 _ b1 b2
      rw [e1]
  · intro i hi
    have hne : zpos L2 i ≠ none := by
      intro h
      apply hcov i hi
      rw [zpos_none] at h ⊢
      intro j hj
      have hx : Ls[j]? = some (Ls.getD j 0) := by rw [List.getD_eq_getElem?_getD, List.getElem?_eq_getElem hj]; rfl
      have hm := hp.mem_iff.mpr (List.mem_of_getElem? hx)
      obtain ⟨q, hq⟩ := List.getElem?_of_mem hm
      have := h q (List.getElem?_eq_some_iff.mp hq).1
      rw [List.getD_eq_getElem?_getD, hq] at this
      exact this
    exact zelim_zpI _ _ hne
theorem arranges_ok_a {N at_ : Nat} (hN : N ≤ 12) (hat : at_ + 12 ≤ 12) {st asd : Nat → Int32} (h0 : st 0 = nI N) {Ls L2 : List Int32} (hr : rowM N (fun i => asd (at_ + i)) Ls) (hok : zok N Ls) (hcov : ∀ i, i < N → zpos Ls i ≠ none) (hp : L2.Perm Ls) (hso : zsorted L2) (d s e : Int32) (nr : Nat → Int32) : ∃ nr2, fX9_arranges_a (nI at_) d s e st nr asd = some (nr2, fun j => if at_ ≤ j ∧ j < at_ + 12 then nr2 (j - at_) else asd j) ∧ rowM N nr2 L2 := by
  have hl := zok_len hok
  have hok2 := zok_perm hp.symm hok
  have hl2 := hp.length_eq
  refine ⟨fun j => (zpos L2 j).elim (if 0 ≤ j ∧ j < 0 + 12 then asd (at_ + (j - 0)) else nr j) nI, ?_, ?_⟩
  · unfold fX9_arranges_a
    refine ob1_of (bring_ok (a := at_) (b := 0) (n := 12) (by omega) (by omega) (by omega) (by omega) (by omega) asd nr) ?_
    have key := zloop (f := fX9_arranges_a_s17 st (nI at_) asd d s e) (r := fun j => (zpos L2 j).elim (if 0 ≤ j ∧ j < 0 + 12 then asd (at_ + (j - 0)) else nr j) nI) N (fun i => (nI (L2.filter (fun y => decide (zlst y < i))).length, fun j => (zpos (L2.filter (fun y => decide (zlst y < i))) j).elim (if 0 ≤ j ∧ j < 0 + 12 then asd (at_ + (j - 0)) else nr j) nI)) 0 (Nat.zero_le _) (by omega) ?_ ?_
    · have e0 : L2.filter (fun y => decide (zlst y < 0)) = [] := by
        rw [List.filter_eq_nil_iff]
        intro y _
        simp
      rw [e0] at key
      refine ob1_of key ?_
      refine ob1_of (bring_ok (a := 0) (b := at_) (n := 12) (by omega) (by omega) (by omega) (by omega) (by omega) _ asd) ?_
      simp only [Nat.zero_add]
    · intro i _ hi
      obtain ⟨k, hk⟩ : ∃ k, zpos Ls i = some k := by
        cases hz : zpos Ls i with
        | none => exact absurd hz (hcov i hi)
        | some k => exact ⟨k, rfl⟩
      have hkl := zpos_lt hk
      obtain ⟨x, hx⟩ : ∃ x, Ls[k]? = some x := ⟨_, List.getElem?_eq_getElem hkl⟩
      have hxm := List.mem_of_getElem? hx
      have hx0 := (hok.1 x hxm).1
      have hb := zpos_bt hk hx
      have hri : asd (at_ + i) = nI k := by have := hr i hi; rw [hk] at this; exact this
      have hcond : (x &&& (((1 : Int32) <<< (nI i &&& 31)) - 1)) = 0 ↔ zlst x = i := by
        rw [zb_z]
        constructor
        · intro h
          refine zlst_uniq (by omega) hb (fun j hj => ?_)
          have := h j (by omega)
          rw [b_and, zb_all (by omega) (by omega), decide_eq_true hj, Bool.and_true] at this
          exact this
        · intro h j hj
          rw [b_and, zb_all (by omega) hj]
          by_cases hji : j < i
          · rw [(zlst_ok hx0).2.2 j (by omega)]
            rfl
          · rw [decide_eq_false hji, Bool.and_false]
      rw [zfil_succ hso i]
      unfold fX9_arranges_a_s17 fX9_arranges_a_b17
      dsimp only
      rw [h0, if_neg (by rw [zle (by omega) (by omega)]; omega), nI_add, ogd_ok (by omega) (by omega), zcl (by omega), hri, members_ok_a hN hat h0, rowM_mem hN hr hok hx]
      simp only [ob1]
      by_cases hc : zlst x = i
      · rw [if_pos (hcond.mpr hc), gives_ok hN h0]
        have e1 : L2.filter (fun y => decide (zlst y = i)) = [x] := by
          rw [← hc]
          exact zfil_one hso (hp.mem_iff.mpr hxm)
        have hokf : zok N (L2.filter (fun y => decide (zlst y < i)) ++ [x]) := by
          rw [← e1, ← zfil_succ hso i]
          exact zok_sublist List.filter_sublist hok2
        rw [e1, give_step hokf]
        simp only [List.length_append, List.length_cons, List.length_nil, nI_1]
      · rw [if_neg (fun q => hc (hcond.mp q))]
        have e1 : L2.filter (fun y => decide (zlst y = i)) = [] := by
          rw [List.filter_eq_nil_iff]
          intro y hy
          simp only [decide_eq_true_eq]
          intro hyi
          have hy2 := hp.mem_iff.mp hy
          obtain ⟨q, hq⟩ := List.getElem?_of_mem hy2
          obtain ⟨b1, b2, -⟩ := zlst_ok (hok.1 y hy2).1
          rw [hyi] at b2
          have := zpos_of hok (by omega) hq b2
          rw [hk] at this
          cases this
          rw [hx] at hq
          cases hq
          exact hc hyi
        rw [e1, List.append_nil, nI_1]
    · unfold fX9_arranges_a_s17 fX9_arranges_a_b17
      dsimp only
      rw [h0, if_pos (by rw [zle (by omega) (by omega)]; omega)]
      have e1 : L2.filter (fun y => decide (zlst y < N)) = L2 := by
        rw [List.filter_eq_self]
        intro y hy
        obtain ⟨b1, b2, -⟩ := zlst_ok (hok2.1 y hy).1
        simpa using (hok2.1 y hy).2 _ b1 b2
      rw [e1]
  · intro i hi
    have hne : zpos L2 i ≠ none := by
      intro h
      apply hcov i hi
      rw [zpos_none] at h ⊢
      intro j hj
      have hx : Ls[j]? = some (Ls.getD j 0) := by rw [List.getD_eq_getElem?_getD, List.getElem?_eq_getElem hj]; rfl
      have hm := hp.mem_iff.mpr (List.mem_of_getElem? hx)
      obtain ⟨q, hq⟩ := List.getElem?_of_mem hm
      have := h q (List.getElem?_eq_some_iff.mp hq).1
      rw [List.getD_eq_getElem?_getD, hq] at this
      exact this
    exact zelim_zpI _ _ hne
