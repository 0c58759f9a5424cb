theorem zok_pre {N : Nat} {A B : List Int32} (h : zok N (A ++ B)) : zok N A := ⟨fun x hx => h.1 x (List.mem_append_left _ hx), (List.pairwise_append.mp h.2).1⟩
theorem zok_suf {N : Nat} {A B : List Int32} (h : zok N (A ++ B)) : zok N B := ⟨fun x hx => h.1 x (List.mem_append_right _ hx), (List.pairwise_append.mp h.2).2.1⟩
theorem zspl_ok {N : Nat} {s : Int32} {B : List Int32} (h : zok N B) : zok N (zspl s B) := zok_spl (A := []) h
theorem bt_lt {x : Int32} {i : Nat} (h : bt x i = true) : i < 32 := by
  rcases Nat.lt_or_ge i 32 with h1 | h1
  · exact h1
  · rw [b_big h1] at h; cases h
theorem give_step {N : Nat} {A : List Int32} {y : Int32} (hok : zok N (A ++ [y])) (nr0 : Nat → Int32) : (fun j => if j < N ∧ bt y j = true then nI A.length else (zpos A j).elim (nr0 j) nI) = (fun j => (zpos (A ++ [y]) j).elim (nr0 j) nI) := by
  funext j
  rw [zpos_app]
  cases hp : zpos A j with
  | none =>
    simp only [zpos]
    by_cases hb : bt y j = true
    · have hj := (hok.1 y (by simp)).2 j (bt_lt hb) hb
      rw [if_pos ⟨hj, hb⟩, if_pos hb]
      simp
    · rw [if_neg (fun q => hb q.2), if_neg hb]
      rfl
  | some p =>
    rw [if_neg]
    · rintro ⟨h1, h2⟩
      obtain ⟨a, ha⟩ : ∃ a, A[p]? = some a := ⟨_, List.getElem?_eq_getElem (zpos_lt hp)⟩
      have hd := (List.pairwise_append.mp hok.2).2.2 a (List.mem_of_getElem? ha) y (by simp) j (bt_lt h2) (zpos_bt hp ha)
      rw [h2] at hd
      cases hd
theorem zelim_zpI (o : Option Nat) (d : Int32) (h : o ≠ none) : o.elim d nI = zpI o := by
  cases o with
  | none => exact absurd rfl h
  | some k => rfl
theorem zspl_none {s : Int32} {N : Nat} {Ls : List Int32} (hok : zok N Ls) {j : Nat} : zpos (zspl s Ls) j = none ↔ zpos Ls j = none := by
  rw [zpos_none, zpos_none]
  constructor
  · intro h k hk
    cases hb : bt (Ls.getD k 0) j with
    | false => rfl
    | true =>
      exfalso
      have hx : Ls[k]? = some (Ls.getD k 0) := by rw [List.getD_eq_getElem?_getD, List.getElem?_eq_getElem hk]; rfl
      have hm := List.mem_of_getElem? hx
      generalize Ls.getD k 0 = x at hb hx hm
      have hj := bt_lt hb
      have key : ∃ y ∈ zcut s x, bt y j = true := by
        unfold zcut
        cases hs : bt s j with
        | true =>
          have h1 : bt (x &&& s) j = true := by rw [b_and, hb, hs]; rfl
          refine ⟨x &&& s, ?_, h1⟩
          rw [if_neg (zb_nz.mpr ⟨j, hj, h1⟩)]
          simp
        | false =>
          have h1 : bt (x &&& (s ^^^ (-1))) j = true := by rw [b_and, hb, zb_not s hj, hs]; rfl
          refine ⟨x &&& (s ^^^ (-1)), ?_, h1⟩
          rw [if_neg (zb_nz.mpr ⟨j, hj, h1⟩)]
          exact List.mem_append_right _ List.mem_cons_self
      obtain ⟨y, hy, hyb⟩ := key
      have hy2 : y ∈ zspl s Ls := List.mem_flatMap.mpr ⟨x, hm, hy⟩
      obtain ⟨q, hq⟩ := List.getElem?_of_mem hy2
      have := h q (List.getElem?_eq_some_iff.mp hq).1
      rw [List.getD_eq_getElem?_getD, hq] at this
      simp [hyb] at this
  · intro h k hk
    cases hb : bt ((zspl s Ls).getD k 0) j with
    | false => rfl
    | true =>
      exfalso
      have hx : (zspl s Ls)[k]? = some ((zspl s Ls).getD k 0) := by rw [List.getD_eq_getElem?_getD, List.getElem?_eq_getElem hk]; rfl
      have hm := List.mem_of_getElem? hx
      generalize (zspl s Ls).getD k 0 = y at hb hx hm
      obtain ⟨x, hx2, hyx⟩ := List.mem_flatMap.mp hm
      have hb2 := (zcut_mem hyx).2 j (bt_lt hb) hb
      obtain ⟨q, hq⟩ := List.getElem?_of_mem hx2
      have := h q (List.getElem?_eq_some_iff.mp hq).1
      rw [List.getD_eq_getElem?_getD, hq] at this
      simp [hb2] at this
theorem splits_ok {N at_ : Nat} (hN : N ≤ 12) (hat : at_ + 12 ≤ 76) {st : Nat → Int32} (h0 : st 0 = nI N) {Ls : List Int32} (hr : rowM N (fun i => st (at_ + i)) Ls) (hok : zok N Ls) (set d s e : Int32) (nr : Nat → Int32) : ∃ nr2, fX9_splits (nI at_) set d s e st nr = some ((fun j => if at_ ≤ j ∧ j < at_ + 12 then nr2 (j - at_) else st j), nr2) ∧ rowM N nr2 (zspl set Ls) := by
  have hl := zok_len hok
  refine ⟨fun j => (zpos (zspl set Ls) j).elim (if 0 ≤ j ∧ j < 0 + 12 then st (at_ + (j - 0)) else nr j) nI, ?_, ?_⟩
  · unfold fX9_splits
    refine ob1_of (classes_ok hN hat h0 d s e) ?_
    rw [rowM_cls hN hr hok]
    refine ob1_of (bring_ok (a := at_) (b := 0) (n := 12) (by omega) (by omega) (by omega) (by omega) (by omega) st nr) ?_
    have key := zloop (f := fX9_splits_s26 (nI Ls.length) (nI at_) d s e st set) (r := fun j => (zpos (zspl set Ls) j).elim (if 0 ≤ j ∧ j < 0 + 12 then st (at_ + (j - 0)) else nr j) nI) Ls.length (fun i => (nI (zspl set (Ls.take i)).length, fun j => (zpos (zspl set (Ls.take i)) j).elim (if 0 ≤ j ∧ j < 0 + 12 then st (at_ + (j - 0)) else nr j) nI)) 0 (Nat.zero_le _) (by omega) ?_ ?_
    · refine ob1_of key ?_
      refine ob1_of (bring_ok (a := 0) (b := at_) (n := 12) (by omega) (by omega) (by omega) (by omega) (by omega) _ st) ?_
      simp only [Nat.zero_add]
    · intro i _ hi
      obtain ⟨x, hx⟩ : ∃ x, Ls[i]? = some x := ⟨_, List.getElem?_eq_getElem hi⟩
      have hx0 := (hok.1 x (List.mem_of_getElem? hx)).1
      have ht : Ls.take (i + 1) = Ls.take i ++ [x] := by
        rw [List.take_add_one, hx]
        rfl
      have hs1 : zspl set (Ls.take (i + 1)) = zspl set (Ls.take i) ++ zcut set x := by
        rw [ht, zspl_app, zspl_cons]
        simp [zspl]
      have hokn : zok N (zspl set (Ls.take i) ++ zcut set x) := by
        rw [← hs1]
        refine zspl_ok ?_
        have := hok
        rw [← List.take_append_drop (i + 1) Ls] at this
        exact zok_pre this
      rw [hs1]
      generalize zspl set (Ls.take i) = B at hokn ⊢
      unfold fX9_splits_s26 fX9_splits_b26
      dsimp only
      rw [if_neg (by rw [zle (by omega) (by omega)]; omega), members_ok hN hat h0, rowM_mem hN hr hok hx]
      simp only [ob1]
      by_cases c1 : x &&& set = 0
      · rw [if_pos c1]
        simp only [ob2]
        rw [zand_not c1, if_neg hx0, gives_ok hN h0]
        rw [zcut_in hx0 c1] at hokn ⊢
        rw [give_step hokn]
        simp only [ob1, List.length_append, List.length_cons, List.length_nil, nI_1]
      · rw [if_neg c1, gives_ok hN h0]
        by_cases c2 : x &&& (set ^^^ (-1)) = 0
        · rw [zcut_out hx0 c2] at hokn ⊢
          simp only [ob2]
          rw [if_pos c2, zand_self c2, give_step hokn]
          simp only [List.length_append, List.length_cons, List.length_nil, nI_1]
        · rw [zcut_two c1 c2] at hokn ⊢
          have hok2 : zok N ((B ++ [x &&& set]) ++ [x &&& (set ^^^ (-1))]) := by simpa using hokn
          simp only [ob2]
          rw [if_neg c2, give_step (zok_pre hok2), gives_ok hN h0, nI_1]
          have e2 := give_step hok2 (fun j => if 0 ≤ j ∧ j < 0 + 12 then st (at_ + (j - 0)) else nr j)
          simp only [List.length_append, List.length_cons, List.length_nil] at e2
          simp only [ob1]
          rw [e2]
          simp only [List.length_append, List.length_cons, List.length_nil, nI_1, List.append_assoc, List.cons_append, List.nil_append]
    · unfold fX9_splits_s26 fX9_splits_b26
      dsimp only
      rw [if_pos (by rw [zle (by omega) (by omega)]; omega), List.take_length]
  · intro i hi
    have h1 := hr i hi
    dsimp only at h1 ⊢
    cases hp : zpos (zspl set Ls) i with
    | some k => rfl
    | none =>
      rw [zspl_none hok] at hp
      rw [hp] at h1
      simp only [Option.elim]
      rw [if_pos ⟨Nat.zero_le _, by omega⟩, Nat.sub_zero, h1]
theorem splits_ok_a {N at_ : Nat} (hN : N ≤ 12) (hat : at_ + 12 ≤ 12) {st asd : Nat → Int32} (h0 : st 0 = nI N) {Ls : List Int32} (hr : rowM N (fun i => asd (at_ + i)) Ls) (hok : zok N Ls) (set d s e : Int32) (nr : Nat → Int32) : ∃ nr2, fX9_splits_a (nI at_) set d s e st nr asd = some (nr2, fun j => if at_ ≤ j ∧ j < at_ + 12 then nr2 (j - at_) else asd j) ∧ rowM N nr2 (zspl set Ls) := by
  have hl := zok_len hok
  refine ⟨fun j => (zpos (zspl set Ls) j).elim (if 0 ≤ j ∧ j < 0 + 12 then asd (at_ + (j - 0)) else nr j) nI, ?_, ?_⟩
  · unfold fX9_splits_a
    refine ob1_of (classes_ok_a hN hat h0 d s e) ?_
    rw [rowM_cls hN hr hok]
    refine ob1_of (bring_ok (a := at_) (b := 0) (n := 12) (by omega) (by omega) (by omega) (by omega) (by omega) asd nr) ?_
    have key := zloop (f := fX9_splits_a_s26 (nI Ls.length) (nI at_) d s e st asd set) (r := fun j => (zpos (zspl set Ls) j).elim (if 0 ≤ j ∧ j < 0 + 12 then asd (at_ + (j - 0)) else nr j) nI) Ls.length (fun i => (nI (zspl set (Ls.take i)).length, fun j => (zpos (zspl set (Ls.take i)) j).elim (if 0 ≤ j ∧ j < 0 + 12 then asd (at_ + (j - 0)) else nr j) nI)) 0 (Nat.zero_le _) (by omega) ?_ ?_
    · refine ob1_of key ?_
      refine ob1_of (bring_ok (a := 0) (b := at_) (n := 12) (by omega) (by omega) (by omega) (by omega) (by omega) _ asd) ?_
      simp only [Nat.zero_add]
    · intro i _ hi
      obtain ⟨x, hx⟩ : ∃ x, Ls[i]? = some x := ⟨_, List.getElem?_eq_getElem hi⟩
      have hx0 := (hok.1 x (List.mem_of_getElem? hx)).1
      have ht : Ls.take (i + 1) = Ls.take i ++ [x] := by
        rw [List.take_add_one, hx]
        rfl
      have hs1 : zspl set (Ls.take (i + 1)) = zspl set (Ls.take i) ++ zcut set x := by
        rw [ht, zspl_app, zspl_cons]
        simp [zspl]
      have hokn : zok N (zspl set (Ls.take i) ++ zcut set x) := by
        rw [← hs1]
        refine zspl_ok ?_
        have := hok
        rw [← List.take_append_drop (i + 1) Ls] at this
        exact zok_pre this
      rw [hs1]
      generalize zspl set (Ls.take i) = B at hokn ⊢
      unfold fX9_splits_a_s26 fX9_splits_a_b26
      dsimp only
      rw [if_neg (by rw [zle (by omega) (by omega)]; omega), members_ok_a hN hat h0, rowM_mem hN hr hok hx]
      simp only [ob1]
      by_cases c1 : x &&& set = 0
      · rw [if_pos c1]
        simp only [ob2]
        rw [zand_not c1, if_neg hx0, gives_ok hN h0]
        rw [zcut_in hx0 c1] at hokn ⊢
        rw [give_step hokn]
        simp only [ob1, List.length_append, List.length_cons, List.length_nil, nI_1]
      · rw [if_neg c1, gives_ok hN h0]
        by_cases c2 : x &&& (set ^^^ (-1)) = 0
        · rw [zcut_out hx0 c2] at hokn ⊢
          simp only [ob2]
          rw [if_pos c2, zand_self c2, give_step hokn]
          simp only [List.length_append, List.length_cons, List.length_nil, nI_1]
        · rw [zcut_two c1 c2] at hokn ⊢
          have hok2 : zok N ((B ++ [x &&& set]) ++ [x &&& (set ^^^ (-1))]) := by simpa using hokn
          simp only [ob2]
          rw [if_neg c2, give_step (zok_pre hok2), gives_ok hN h0, nI_1]
          have e2 := give_step hok2 (fun j => if 0 ≤ j ∧ j < 0 + 12 then asd (at_ + (j - 0)) else nr j)
          simp only [List.length_append, List.length_cons, List.length_nil] at e2
          simp only [ob1]
          rw [e2]
          simp only [List.length_append, List.length_cons, List.length_nil, nI_1, List.append_assoc, List.cons_append, List.nil_append]
    · unfold fX9_splits_a_s26 fX9_splits_a_b26
      dsimp only
      rw [if_pos (by rw [zle (by omega) (by omega)]; omega), List.take_length]
  · intro i hi
    have h1 := hr i hi
    dsimp only at h1 ⊢
    cases hp : zpos (zspl set Ls) i with
    | some k => rfl
    | none =>
      rw [zspl_none hok] at hp
      rw [hp] at h1
      simp only [Option.elim]
      rw [if_pos ⟨Nat.zero_le _, by omega⟩, Nat.sub_zero, h1]
