/-! ===== search: the reference's side ===== -/
theorem clsE {N : Nat} (hN : N ≤ 12) {row : zF} {Ls : List Int32} (hr : ∀ i, i < N → row i = zpI ((zpos Ls i).map (· + 1))) (hok : zok N Ls) : ∃ M, zmx row N + 1 = nI M ∧ M ≤ Ls.length + 1 ∧ Ls.take (M - 1) = Ls := by
  have hl := zok_len hok
  have hmem : ∀ k x, Ls[k]? = some x → ∃ i, i < N ∧ row i = nI (k + 1) := by
    intro k x hx
    obtain ⟨a1, a2, -⟩ := zlst_ok (hok.1 x (List.mem_of_getElem? hx)).1
    have hlt := (hok.1 x (List.mem_of_getElem? hx)).2 _ a1 a2
    exact ⟨_, hlt, by rw [hr _ hlt, zpos_of hok a1 hx a2]; rfl⟩
  rcases zmx_ok (row := row) (C := Ls.length + 1) (by omega) N (fun i hi => by
    rw [hr i hi]
    cases hp : zpos Ls i with
    | none => exact Or.inl rfl
    | some k => exact Or.inr ⟨k + 1, by have := zpos_lt hp; omega, rfl⟩) with ⟨e, h2⟩ | ⟨k, hk, e, -, h3⟩
  · refine ⟨0, by rw [e]; rfl, by omega, ?_⟩
    cases Ls with
    | nil => rfl
    | cons x xs =>
      obtain ⟨i, hi, e2⟩ := hmem 0 x rfl
      rw [h2 i hi] at e2
      exact absurd e2.symm (zne1 (by omega))
  · refine ⟨k + 1, by rw [e, nI_1], by omega, ?_⟩
    apply List.take_of_length_le
    cases hL : Ls.length with
    | zero => omega
    | succ m =>
      obtain ⟨x, hx⟩ : ∃ x, Ls[m]? = some x := ⟨_, List.getElem?_eq_getElem (by omega)⟩
      obtain ⟨i, hi, e2⟩ := hmem m x hx
      have := h3 i (m + 1) hi e2 (by omega)
      omega
theorem memE {N : Nat} (hN : N ≤ 12) {row : zF} {Ls : List Int32} (hr : ∀ i, i < N → row i = zpI ((zpos Ls i).map (· + 1))) (hok : zok N Ls) {k : Nat} {x : Int32} (hx : Ls[k]? = some x) : zmk (fun i => decide (row i = nI (k + 1))) N = x := by
  have hl := zok_len hok
  have hk := (List.getElem?_eq_some_iff.mp hx).1
  rw [← rowM_mem (row := fun i => zpI (zpos Ls i)) hN (fun i hi => rfl) hok hx]
  refine zmk_congr N (fun i hi => ?_)
  apply decide_eq_decide.mpr
  rw [hr i hi]
  cases hp : zpos Ls i with
  | none =>
    constructor
    · intro e
      exact absurd (Eq.symm e) (zne1 (show k + 1 < 2 ^ 31 by omega))
    · intro e
      exact absurd (Eq.symm e) (zne1 (show k < 2 ^ 31 by omega))
  | some j =>
    have hj := zpos_lt hp
    show nI (j + 1) = nI (k + 1) ↔ nI j = nI k
    rw [zeq (by omega) (by omega), zeq (by omega) (by omega)]
    omega
theorem memE0 {N : Nat} (hN : N ≤ 12) {row : zF} {Ls : List Int32} (hr : ∀ i, i < N → row i = zpI ((zpos Ls i).map (· + 1))) (hok : zok N Ls) : zmk (fun i => decide (row i = nI 0)) N = 0 := by
  have hl := zok_len hok
  rw [zb_z]
  intro i hi
  rw [zb_mk _ N (by omega) i hi]
  by_cases hiN : i < N
  · rw [decide_eq_true hiN, Bool.true_and]
    apply decide_eq_false
    rw [hr i hiN]
    cases hp : zpos Ls i with
    | none => decide
    | some j =>
      have hj := zpos_lt hp
      show ¬ nI (j + 1) = nI 0
      rw [zeq (by omega) (by omega)]
      omega
  · rw [decide_eq_false hiN, Bool.false_and]
theorem splitsE_ok {N at_ : Nat} (hN : N ≤ 12) (hat : at_ + 12 ≤ 12) {st asd : Nat → Int32} (h0 : st 0 = nI N) {Ls : List Int32} (hr : ∀ i, i < N → asd (at_ + i) = zpI ((zpos Ls i).map (· + 1))) (hok : zok N Ls) (set d s e : Int32) (nr : Nat → Int32) : ∃ nr2, fX9_splits_a (nI at_) set d s e st nr asd = some (nr2, fun j => if at_ ≤ j ∧ j < at_ + 12 then nr2 (j - at_) else asd j) ∧ rowM N nr2 (zspl set Ls) := by
  have hl := zok_len hok
  obtain ⟨M, hM1, hM2, hM3⟩ := clsE (row := fun i => asd (at_ + i)) hN hr hok
  refine ⟨fun j => (zpos (zspl set Ls) j).elim (if 0 ≤ j ∧ j < 0 + 12 then asd (at_ + (j - 0)) else nr j) nI, ?_, ?_⟩
  · unfold fX9_splits_a
    refine ob1_of (classes_ok_a hN hat h0 d s e) ?_
    rw [hM1]
    refine ob1_of (bring_ok (a := at_) (b := 0) (n := 12) (by omega) (by omega) (by omega) (by omega) (by omega) asd nr) ?_
    have key := zloop (f := fX9_splits_a_s26 (nI M) (nI at_) d s e st asd set) (r := fun j => (zpos (zspl set Ls) j).elim (if 0 ≤ j ∧ j < 0 + 12 then asd (at_ + (j - 0)) else nr j) nI) M (fun i => (nI (zspl set (Ls.take (i - 1))).length, fun j => (zpos (zspl set (Ls.take (i - 1))) j).elim (if 0 ≤ j ∧ j < 0 + 12 then asd (at_ + (j - 0)) else nr j) nI)) 0 (Nat.zero_le _) (by omega) ?_ ?_
    · refine ob1_of key ?_
      refine ob1_of (bring_ok (a := 0) (b := at_) (n := 12) (by omega) (by omega) (by omega) (by omega) (by omega) _ asd) ?_
      simp only [Nat.zero_add]
    · intro i1 _ hi1
      cases i1 with
      | zero =>
        unfold fX9_splits_a_s26 fX9_splits_a_b26
        dsimp only
        have hz : ∀ y : Int32, (0 : Int32) &&& y = 0 := fun y => b_ext (fun i _ => by rw [b_and, b_0, Bool.false_and])
        rw [if_neg (by rw [zle (by omega) (by omega)]; omega), members_ok_a hN hat h0, memE0 (row := fun i => asd (at_ + i)) hN hr hok, ob1_some, ob1_some, hz, if_pos rfl, ob2_some, hz, if_pos rfl, nI_1]
      | succ i =>
      have hi : i < Ls.length := by omega
      obtain ⟨x, hx⟩ : ∃ x, Ls[i]? = some x := ⟨_, List.getElem?_eq_getElem hi⟩
      have hx0 := (hok.1 x (List.mem_of_getElem? hx)).1
      rw [show i + 1 + 1 - 1 = i + 1 by omega, show i + 1 - 1 = i by omega]
      have ht : Ls.take (i + 1) = Ls.take i ++ [x] := by
        rw [List.take_add_one, hx]
        rfl
      have hs1 : zspl set (Ls.take (i + 1)) = zspl set (Ls.take i) ++ zcut set x := by
        rw [ht, zspl_app, zspl_cons]
        simp [zspl]
      have hokn : zok N (zspl set (Ls.take i) ++ zcut set x) := by
        rw [← hs1]
        refine zspl_ok ?_
        have := hok
        rw [← List.take_append_drop (i + 1) Ls] at this
        exact zok_pre this
      rw [hs1]
      generalize zspl set (Ls.take i) = B at hokn ⊢
      unfold fX9_splits_a_s26 fX9_splits_a_b26
      dsimp only
      rw [if_neg (by rw [zle (by omega) (by omega)]; omega), members_ok_a hN hat h0, memE (row := fun i => asd (at_ + i)) hN hr hok hx]
      simp only [ob1]
      by_cases c1 : x &&& set = 0
      · rw [if_pos c1]
        simp only [ob2]
        rw [zand_not c1, if_neg hx0, gives_ok hN h0]
        rw [zcut_in hx0 c1] at hokn ⊢
        rw [give_step hokn]
        simp only [ob1, List.length_append, List.length_cons, List.length_nil, nI_1]
      · rw [if_neg c1, gives_ok hN h0]
        by_cases c2 : x &&& (set ^^^ (-1)) = 0
        · rw [zcut_out hx0 c2] at hokn ⊢
          simp only [ob2]
          rw [if_pos c2, zand_self c2, give_step hokn]
          simp only [List.length_append, List.length_cons, List.length_nil, nI_1]
        · rw [zcut_two c1 c2] at hokn ⊢
          have hok2 : zok N ((B ++ [x &&& set]) ++ [x &&& (set ^^^ (-1))]) := by simpa using hokn
          simp only [ob2]
          rw [if_neg c2, give_step (zok_pre hok2), gives_ok hN h0, nI_1]
          have e2 := give_step hok2 (fun j => if 0 ≤ j ∧ j < 0 + 12 then asd (at_ + (j - 0)) else nr j)
          simp only [List.length_append, List.length_cons, List.length_nil] at e2
          simp only [ob1]
          rw [e2]
          simp only [List.length_append, List.length_cons, List.length_nil, nI_1, List.append_assoc, List.cons_append, List.nil_append]
    · unfold fX9_splits_a_s26 fX9_splits_a_b26
      dsimp only
      rw [if_pos (by rw [zle (by omega) (by omega)]; omega), hM3]
  · intro i hi
    have h1 := hr i hi
    dsimp only at h1 ⊢
    cases hp : zpos (zspl set Ls) i with
    | some k => rfl
    | none =>
      rw [zspl_none hok] at hp
      rw [hp] at h1
      simp only [Option.elim]
      rw [if_pos ⟨Nat.zero_le _, by omega⟩, Nat.sub_zero, h1]
      rfl
theorem searchS_ok {N : Nat} (hN : N ≤ 12) {st asd near : zF} (h0 : st 0 = nI N) (hn : ∀ i, i < N → st (16 + i) = near i) {x : Int32} {r : List Int32} (hok : zok N (x :: r)) (hr : rowM N asd (x :: r)) {k : Nat} (hk : k < N) (d s e : Int32) (nr sea : zF) : ∃ nr2 asd2, fX9_searches_s32 st d s e (nI k, nr, asd, sea) = some (.inl (nI (k + 1), nr2, asd2, upd sea k (nI (zlst x)))) ∧ rowM N asd2 (zspl (near (zlst x)) (zdrop (x :: r))) := by
  have hx := hok.1 x (by simp)
  have hxs := zok_sub hok hN (show x ∈ x :: r by simp)
  obtain ⟨a1, a2, -⟩ := zlst_ok hx.1
  have hlt := hx.2 _ a1 a2
  have hokr : zok N r := ⟨fun y hy => hok.1 y (by simp [hy]), (List.pairwise_cons.mp hok.2).2⟩
  have hmem : fX9_membersOf_a 0 0 d s e st asd = some x := by
    have h1 := members_ok_a (at_ := 0) (asd := asd) hN (by omega) h0 (nI 0) d s e
    have h2 : zmk (fun i => decide (asd (0 + i) = nI 0)) N = x := rowM_mem hN (row := fun i => asd (0 + i)) (fun i hi => by dsimp only; rw [Nat.zero_add]; exact hr i hi) hok (k := 0) rfl
    rw [h2] at h1
    exact h1
  have hfirst : olp (fX9_searches_s44 d s e st asd) oFu (0 : Int32) = some 0 := by
    have hs0 : fX9_searches_s44 d s e st asd (0 : Int32) = some (.inr 0) := by
      unfold fX9_searches_s44 fX9_searches_b44
      rw [hmem, ob1_some, if_neg hx.1]
    unfold oFu olp
    rw [hs0]
  have hsp : ∃ nr2, fX9_splits_a 0 (near (zlst x)) d s e st nr (upd asd (zlst x) (-1)) = some (nr2, fun j => if 0 ≤ j ∧ j < 0 + 12 then nr2 (j - 0) else (upd asd (zlst x) (-1)) j) ∧ rowM N nr2 (zspl (near (zlst x)) (zdrop (x :: r))) := by
    have e1 : ∀ i, zpos (x :: r) i = if bt x i = true then some 0 else (zpos r i).map (· + 1) := fun i => rfl
    rw [zdrop_c]
    by_cases hm : zmin x = 0
    · rw [if_pos hm]
      refine splitsE_ok (at_ := 0) hN (by omega) h0 (fun i hi => ?_) hokr (near (zlst x)) d s e nr
      rw [Nat.zero_add]
      have hb := zmin_bt hx.1 (show i < 32 by omega)
      rw [hm, b_0] at hb
      by_cases hi2 : i = zlst x
      · subst hi2
        rw [pk_us]
        have : zpos r (zlst x) = none := by
          rw [zpos_none]
          intro j hj
          have hy : r[j]? = some (r.getD j 0) := by rw [List.getD_eq_getElem?_getD, List.getElem?_eq_getElem hj]; rfl
          exact (List.pairwise_cons.mp hok.2).1 _ (List.mem_of_getElem? hy) _ a1 a2
        rw [this]
        rfl
      · rw [pk_un hi2, hr i hi, e1]
        have : ¬ bt x i = true := by
          intro q
          rw [q] at hb
          simp [hi2] at hb
        rw [if_neg this]
    · rw [if_neg hm]
      have hd := zdrop_ok hok
      rw [zdrop_c, if_neg hm] at hd
      refine splits_ok_a (at_ := 0) hN (by omega) h0 (Ls := zmin x :: r) (fun i hi => ?_) hd (near (zlst x)) d s e nr
      dsimp only
      rw [Nat.zero_add]
      have e2 : zpos (zmin x :: r) i = if bt (zmin x) i = true then some 0 else (zpos r i).map (· + 1) := rfl
      rw [e2, zmin_bt hx.1 (show i < 32 by omega)]
      by_cases hi2 : i = zlst x
      · subst hi2
        rw [pk_us, if_neg (by simp)]
        have : zpos r (zlst x) = none := by
          rw [zpos_none]
          intro j hj
          have hy : r[j]? = some (r.getD j 0) := by rw [List.getD_eq_getElem?_getD, List.getElem?_eq_getElem hj]; rfl
          exact (List.pairwise_cons.mp hok.2).1 _ (List.mem_of_getElem? hy) _ a1 a2
        rw [this]
        rfl
      · rw [pk_un hi2, hr i hi, e1]
        by_cases hb : bt x i = true
        · rw [if_pos hb, if_pos (by simp [hb, hi2])]
        · rw [if_neg hb, if_neg (by simp [hb])]
  obtain ⟨nr2, e2, g2⟩ := hsp
  refine ⟨nr2, (fun j => if 0 ≤ j ∧ j < 0 + 12 then nr2 (j - 0) else (upd asd (zlst x) (-1)) j), ?_, ?_⟩
  · unfold fX9_searches_s32 fX9_searches_b32
    dsimp only
    rw [h0, if_neg (by rw [zle (by omega) (by omega)]; omega), hfirst, ob1_some, hmem, ob1_some, leastOf_ok hxs hx.1, ob1_some, za16, ogd_ok (by omega) (by omega), ogd_ok (by omega) (by omega), ogd_ok (by omega) (by omega), zcl (by omega), zcl (by omega), zcl (by omega), hn _ hlt, e2, ob2_some, nI_1]
  · intro i hi
    dsimp only
    rw [if_pos (by omega)]
    exact g2 i hi
theorem walkM_ok {N : Nat} (hN1 : 1 ≤ N) (hN : N ≤ 12) {st near : zF} (h0 : st 0 = nI N) (hn : ∀ i, i < N → st (16 + i) = near i) {q : Nat} (hq : q < N) (d s e : Int32) (nr asd sea : zF) : ∃ nr2 asd2 sea2, fX9_searches (nI q) d s e st nr asd sea = some (nr2, asd2, sea2) ∧ ∀ k, k < N → sea2 k = nI (zhd (zW near (zspl ((1 : Int32) <<< (nI q &&& 31)) [zall N]) k)) := by
  have hok0 := zspl_ok (s := (1 : Int32) <<< (nI q &&& 31)) (zall_ok hN1 hN)
  have hcov0 : ∀ i, i < N → zpos (zspl ((1 : Int32) <<< (nI q &&& 31)) [zall N]) i ≠ none := fun i hi h => by
    rw [zspl_none (zall_ok hN1 hN), zall_pos hN hi] at h
    cases h
  have hpos0 : ∀ i, i < N → zpos (zspl ((1 : Int32) <<< (nI q &&& 31)) [zall N]) i = some (if i = q then 0 else 1) := by
    intro i hi
    have hb : ∀ j, j < 32 → bt (zall N &&& (1 : Int32) <<< (nI q &&& 31)) j = decide (j = q) := by
      intro j hj
      unfold zall
      rw [b_and, zb_all hN hj, zb_one (by omega) hj]
      by_cases hjq : j = q
      · rw [decide_eq_true hjq, decide_eq_true (by omega)]
        rfl
      · rw [decide_eq_false hjq, Bool.and_false]
    have hb2 : ∀ j, j < 32 → bt (zall N &&& ((1 : Int32) <<< (nI q &&& 31) ^^^ (-1))) j = (decide (j < N) && decide (¬ j = q)) := by
      intro j hj
      unfold zall
      rw [b_and, zb_all hN hj, zb_not _ hj, zb_one (by omega) hj]
      simp
    rw [zspl_cons]
    have hnil : zspl ((1 : Int32) <<< (nI q &&& 31)) [] = [] := rfl
    rw [hnil, List.append_nil]
    unfold zcut
    have n1 : ¬ zall N &&& (1 : Int32) <<< (nI q &&& 31) = 0 := zb_nz.mpr ⟨q, by omega, by rw [hb q (by omega)]; simp⟩
    rw [if_neg n1]
    by_cases hiq : i = q
    · rw [if_pos hiq]
      show (if bt (zall N &&& (1 : Int32) <<< (nI q &&& 31)) i = true then some 0 else _) = some 0
      rw [if_pos (by rw [hb i (by omega)]; simp [hiq])]
    · have n2 : ¬ zall N &&& ((1 : Int32) <<< (nI q &&& 31) ^^^ (-1)) = 0 := zb_nz.mpr ⟨i, by omega, by rw [hb2 i (by omega)]; simp [hi, hiq]⟩
      rw [if_neg n2, if_neg hiq]
      show (if bt (zall N &&& (1 : Int32) <<< (nI q &&& 31)) i = true then some 0 else ((if bt (zall N &&& ((1 : Int32) <<< (nI q &&& 31) ^^^ (-1))) i = true then some 0 else (none : Option Nat).map (· + 1)) : Option Nat).map (· + 1)) = some 1
      rw [if_neg (by rw [hb i (by omega)]; simp [hiq]), if_pos (by rw [hb2 i (by omega)]; simp [hi, hiq])]
      rfl
  generalize zspl ((1 : Int32) <<< (nI q &&& 31)) [zall N] = L0 at hok0 hcov0 hpos0 ⊢
  have hw := zWk_step (near := near) hN hok0 hcov0
  have hfill : ∃ a1, olp (fX9_searches_s2 (nI q)) oFu ((0 : Int32), asd) = some a1 ∧ ∀ i, i < 12 → a1 i = if i = q then 0 else 1 := by
    refine olp_gen (f := fX9_searches_s2 (nI q)) (fun (r : zF) => ∀ i, i < 12 → r i = if i = q then 0 else 1) (fun k t => ∃ g, t = (nI k, g) ∧ ∀ i, i < k → g i = if i = q then 0 else 1) 12 ?_ ?_ oFu 0 ((0 : Int32), asd) (Nat.zero_le _) (oFu_big (by omega)) ⟨asd, rfl, fun i h => absurd h (Nat.not_lt_zero i)⟩
    · rintro k t hk ⟨g, rfl, h⟩
      left
      refine ⟨(nI (k + 1), upd g k (if k = q then 0 else 1)), ?_, _, rfl, fun i hi => ?_⟩
      · unfold fX9_searches_s2 fX9_searches_b2
        dsimp only
        rw [if_neg (by rw [show (12 : Int32) = nI 12 from rfl, zle (by omega) (by omega)]; omega)]
        by_cases hkq : k = q
        · rw [if_pos (by rw [hkq]), if_pos hkq, ob1_some, ogd_ok (by omega) (by omega), zcl (by omega), nI_1]
        · rw [if_neg (by rw [zeq (by omega) (by omega)]; exact hkq), if_neg hkq, ob1_some, ogd_ok (by omega) (by omega), zcl (by omega), nI_1]
      · by_cases hik : i = k
        · subst hik
          rw [pk_us]
        · rw [pk_un (by omega)]
          exact h i (by omega)
    · rintro t ⟨g, rfl, h⟩
      exact ⟨g, rfl, h⟩
  obtain ⟨a1, e1, g1⟩ := hfill
  have key := olp_gen (f := fX9_searches_s32 st d s e) (fun (r : zF × zF × zF) => ∀ k, k < N → r.2.2 k = nI (zhd (zW near L0 k))) (fun k t => ∃ n2 a2 s2, t = (nI k, n2, a2, s2) ∧ rowM N a2 (zW near L0 k) ∧ ∀ j, j < k → s2 j = nI (zhd (zW near L0 j))) N ?_ ?_ oFu 0 ((0 : Int32), nr, a1, sea) (Nat.zero_le _) (oFu_big (by omega)) ⟨nr, a1, sea, rfl, fun i hi => ?_, fun j h => absurd h (Nat.not_lt_zero j)⟩
  · obtain ⟨⟨n2, a2, s2⟩, e, h⟩ := key
    refine ⟨n2, a2, s2, ?_, h⟩
    unfold fX9_searches
    exact ob1_of e1 (ob3_of e rfl)
  · rintro k t hk ⟨n2, a2, s2, rfl, h1, h2⟩
    left
    obtain ⟨x, r, hx, hlt, hb⟩ := zWk_next hN hk (hw k (by omega))
    have ho : zhd (zW near L0 k) = zlst x := by rw [hx]; rfl
    have hok := (hw k (by omega)).1
    rw [hx] at h1 hok
    obtain ⟨n3, a3, e3, g3⟩ := searchS_ok hN h0 hn hok h1 hk d s e n2 s2
    refine ⟨_, e3, n3, a3, _, rfl, ?_, fun j hj => ?_⟩
    · show rowM N a3 (zspl (near (zhd (zW near L0 k))) (zdrop (zW near L0 k)))
      rw [ho, hx]
      exact g3
    · by_cases hjk : j = k
      · subst hjk
        rw [pk_us, ho]
      · rw [pk_un (by omega)]
        exact h2 j (by omega)
  · rintro t ⟨n2, a2, s2, rfl, h1, h2⟩
    refine ⟨(n2, a2, s2), ?_, h2⟩
    unfold fX9_searches_s32 fX9_searches_b32
    dsimp only
    rw [h0, if_pos (by rw [zle (by omega) (by omega)]; omega)]
  · rw [g1 i (by omega)]
    show _ = zpI (zpos L0 i)
    rw [hpos0 i hi]
    by_cases hiq : i = q
    · rw [if_pos hiq, if_pos hiq]
      rfl
    · rw [if_neg hiq, if_neg hiq]
      rfl
