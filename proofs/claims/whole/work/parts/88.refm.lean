/-! ===== refined: object and reference ===== -/
theorem rowM_same {N : Nat} (hN : N ≤ 12) {row : zF} {Ls : List Int32} (hr : rowM N row Ls) (hok : zok N Ls) (hcov : ∀ i, i < N → zpos Ls i ≠ none) {i j : Nat} (hi : i < N) (hj : j < N) : row i = row j ↔ zsame Ls i j := by
  have hl := zok_len hok
  rw [hr i hi, hr j hj, zsame_pos hok (by omega) (by omega) (hcov i hi)]
  cases hz : zpos Ls i with
  | none => exact absurd hz (hcov i hi)
  | some k =>
    cases hw : zpos Ls j with
    | none => exact absurd hw (hcov j hj)
    | some m =>
      have h1 := zpos_lt hz
      have h2 := zpos_lt hw
      show nI k = nI m ↔ some k = some m
      rw [zeq (by omega) (by omega), Option.some.injEq]
theorem tab2 {N : Nat} (hN : N ≤ 12) {f2 : Nat → Int32 × zF → Option ((Int32 × zF) ⊕ zF)} {f1 : Int32 × zF → Option ((Int32 × zF) ⊕ zF)} (V : Nat → Nat → Int32) (h2 : ∀ i j g, i < N → j < N → f2 i (nI j, g) = some (.inl (nI (j + 1), upd g (12 * i + j) (V i j)))) (h2x : ∀ i g, i < N → f2 i (nI N, g) = some (.inr g)) (h1 : ∀ i g g2, i < N → olp (f2 i) oFu (nI 0, g) = some g2 → f1 (nI i, g) = some (.inl (nI (i + 1), g2))) (h1x : ∀ g, f1 (nI N, g) = some (.inr g)) (g0 : zF) : ∃ g, olp f1 oFu (nI 0, g0) = some g ∧ ∀ i j, i < N → j < N → g (12 * i + j) = V i j := by
  have hin : ∀ i, i < N → ∀ (g : zF), ∃ g2, olp (f2 i) oFu (nI 0, g) = some g2 ∧ (∀ q, q < 12 * i → g2 q = g q) ∧ (∀ j, j < N → g2 (12 * i + j) = V i j) := by
    intro i hi g
    refine olp_gen (f := f2 i) (fun (r : zF) => (∀ q, q < 12 * i → r q = g q) ∧ (∀ j, j < N → r (12 * i + j) = V i j)) (fun j t => ∃ g2, t = (nI j, g2) ∧ (∀ q, q < 12 * i → g2 q = g q) ∧ (∀ k, k < j → g2 (12 * i + k) = V i k)) N ?_ ?_ oFu 0 (nI 0, g) (Nat.zero_le _) (oFu_big (by omega)) ⟨g, rfl, fun _ _ => rfl, fun k h => absurd h (Nat.not_lt_zero k)⟩
    · rintro j t hj ⟨g2, rfl, a1, a2⟩
      left
      refine ⟨_, h2 i j g2 hi hj, _, rfl, fun q hq => ?_, fun k hk => ?_⟩
      · rw [pk_un (by omega)]
        exact a1 q hq
      · by_cases hkj : k = j
        · subst hkj
          rw [pk_us]
        · rw [pk_un (by omega)]
          exact a2 k (by omega)
    · rintro t ⟨g2, rfl, a1, a2⟩
      exact ⟨g2, h2x i g2 hi, a1, a2⟩
  refine olp_gen (f := f1) (fun (r : zF) => ∀ i j, i < N → j < N → r (12 * i + j) = V i j) (fun i t => ∃ g, t = (nI i, g) ∧ (∀ a j, a < i → j < N → g (12 * a + j) = V a j)) N ?_ ?_ oFu 0 (nI 0, g0) (Nat.zero_le _) (oFu_big (by omega)) ⟨g0, rfl, fun a j h => absurd h (Nat.not_lt_zero a)⟩
  · rintro i t hi ⟨g, rfl, a1⟩
    left
    obtain ⟨g2, e1, b1, b2⟩ := hin i hi g
    refine ⟨_, h1 i g g2 hi e1, g2, rfl, fun a j ha hj => ?_⟩
    by_cases hai : a = i
    · subst hai
      exact b2 j hj
    · rw [b1 _ (by omega)]
      exact a1 a j (by omega) hj
  · rintro t ⟨g, rfl, a1⟩
    exact ⟨g, h1x g, a1⟩
theorem zSk_len (N : Nat) (cols near : zF) (p : Int32) : (zSk N cols near p).length = if p = 2 then 8 else N := by
  unfold zSk
  by_cases h : p = 2
  · rw [if_pos h, if_pos h, List.length_map, List.length_range]
  · rw [if_neg h, if_neg h, List.length_map, List.length_range]
theorem setOfM_ok {N k : Nat} {p v : Int32} (hN : N ≤ 12) (hp : p = 0 ∨ p = 1 ∨ p = 2) {st cols near : zF} (h0 : st 0 = nI N) (hc : ∀ i, i < N → st (4 + i) = cols i) (hn : ∀ i, i < N → st (16 + i) = near i) (hs : (zSk N cols near p)[k]? = some v) (d s e : Int32) : fX9_setOf p (nI k) 0 d s e st = some v := by
  unfold zSk at hs
  unfold fX9_setOf
  by_cases h2 : p = 2
  · rw [if_pos h2] at hs
    have hk : k < 8 := by
      have := (List.getElem?_eq_some_iff.mp hs).1
      rw [List.length_map, List.length_range] at this
      exact this
    rw [List.getElem?_map, List.getElem?_range hk] at hs
    simp only [Option.map_some, Option.some.injEq] at hs
    subst hs
    subst h2
    rw [if_neg (by decide), if_neg (by decide), if_pos rfl, columnM_ok hN (by omega) h0, ob1_some]
    congr 1
    exact zmk_congr N (fun i hi => by rw [hc i hi])
  · rw [if_neg h2] at hs
    have hk : k < N := by
      have := (List.getElem?_eq_some_iff.mp hs).1
      rw [List.length_map, List.length_range] at this
      exact this
    rw [List.getElem?_map, List.getElem?_range hk] at hs
    simp only [Option.map_some, Option.some.injEq] at hs
    subst hs
    by_cases h1 : p = 0
    · rw [if_pos h1, if_pos h1, za16, ogd_ok (by omega) (by omega), zcl (by omega), hn k hk]
    · have h1' : p = 1 := by
        rcases hp with h | h | h
        · exact absurd h h1
        · exact h
        · exact absurd h h2
      rw [if_neg h1, if_neg h1, if_pos h1', za16, ogd_ok (by omega) (by omega), zcl (by omega), hn k hk]
theorem ta118 (st : zF) (p2 p3 d s e : Int32) : fX9_tellsApart_a_s118 st p2 p3 d s e = fX9_tellsApart_s118 st p2 p3 d s e := rfl
theorem ta299 (st ia : zF) : fX9_tellsApart_a_s299 st ia = fX9_tellsApart_s299 st ia := rfl
theorem tinit_ok {N at_ : Nat} (hN : N ≤ 12) (hat : at_ + 12 ≤ 76) {st : zF} (h0 : st 0 = nI N) {Ls : List Int32} (hr : rowM N (fun i => st (at_ + i)) Ls) (hok : zok N Ls) (hcov : ∀ i, i < N → zpos Ls i ≠ none) (p3 : Int32) (ia : zF) : ∃ ia2, olp (fX9_tellsApart_s3 st p3 (nI at_)) oFu ((0 : Int32), ia) = some ia2 ∧ zag N ia2 (if p3 = 3 then zspl (st 2) Ls else Ls) := by
  have hstep : ∀ i j (g : zF), i < N → j < N → fX9_tellsApart_s17 st p3 (nI i) (nI at_) (nI j, g) = some (.inl (nI (j + 1), upd g (12 * i + j) (z01 (zsb (if p3 = 3 then zspl (st 2) Ls else Ls) i j)))) := by
    intro i j g hi hj
    have hL0 : zsb (if p3 = 3 then zspl (st 2) Ls else Ls) i j = true ↔ (st (at_ + i) = st (at_ + j) ∧ (p3 = 3 → bt (st 2) i = bt (st 2) j)) := by
      have hrow : st (at_ + i) = st (at_ + j) ↔ zsame Ls i j := rowM_same hN hr hok hcov hi hj
      rw [hrow, zsb_iff]
      by_cases h3 : p3 = 3
      · rw [if_pos h3, zsame_spl (by omega) (by omega)]
        exact ⟨fun h => ⟨h.1, fun _ => h.2⟩, fun h => ⟨h.1, h.2 h3⟩⟩
      · rw [if_neg h3]
        exact ⟨fun h => ⟨h, fun q => absurd q h3⟩, fun h => h.1⟩
    generalize zsb (if p3 = 3 then zspl (st 2) Ls else Ls) i j = w at hL0 ⊢
    have hz7 : (if p3 = (3 : Int32) then (ob1 (fX9_has (st 2) (nI i)) (fun r_9 => (ob1 (fX9_has (st 2) (nI j)) (fun r_10 => (if r_9 = r_10 then (some (0 : Int32)) else (some (1 : Int32))))))) else (some (0 : Int32))) = some (z01 (decide (p3 = 3 → bt (st 2) i = bt (st 2) j))) := by
      by_cases h3 : p3 = 3
      · rw [if_pos h3, has_ok _ (by omega), ob1_some, has_ok _ (by omega), ob1_some]
        cases hbi : bt (st 2) i <;> cases hbj : bt (st 2) j <;> simp [h3, z01]
      · rw [if_neg h3, decide_eq_true (fun q => absurd q h3)]
        rfl
    have hz8 : (if (st (at_ + i)) = (st (at_ + j)) then (if z01 (decide (p3 = 3 → bt (st 2) i = bt (st 2) j)) = (0 : Int32) then (some (0 : Int32)) else (some (1 : Int32))) else (some (1 : Int32))) = some (z01 w) := by
      by_cases hR : st (at_ + i) = st (at_ + j)
      · rw [if_pos hR]
        by_cases hc : p3 = 3 → bt (st 2) i = bt (st 2) j
        · rw [hL0.mpr ⟨hR, hc⟩, decide_eq_true hc]
          rfl
        · have hw : w = false := by
            cases w with
            | false => rfl
            | true => exact absurd (hL0.mp rfl).2 hc
          rw [hw, decide_eq_false hc]
          rfl
      · have hw : w = false := by
          cases w with
          | false => rfl
          | true => exact absurd (hL0.mp rfl).1 hR
        rw [if_neg hR, hw]
        rfl
    unfold fX9_tellsApart_s17 fX9_tellsApart_b17
    dsimp only
    rw [h0, if_neg (by rw [zle (by omega) (by omega)]; omega), hz7, ob1_some, nI_add, nI_add, ogd_ok (by omega) (by omega), ogd_ok (by omega) (by omega), zcl (by omega), zcl (by omega), hz8, ob1_some, z12, ogd_ok (by omega) (by omega), zcl (by omega), nar01, nI_1]
  refine tab2 hN (f2 := fun i => fX9_tellsApart_s17 st p3 (nI i) (nI at_)) (f1 := fX9_tellsApart_s3 st p3 (nI at_)) _ hstep ?_ ?_ ?_ ia
  · intro i g hi
    unfold fX9_tellsApart_s17 fX9_tellsApart_b17
    dsimp only
    rw [h0, if_pos (by rw [zle (by omega) (by omega)]; omega)]
  · intro i g g2 hi e1
    have e1 : olp (fX9_tellsApart_s17 st p3 (nI i) (nI at_)) oFu ((0 : Int32), g) = some g2 := e1
    unfold fX9_tellsApart_s3 fX9_tellsApart_b3
    dsimp only
    rw [h0, if_neg (by rw [zle (by omega) (by omega)]; omega), e1, ob1_some, nI_1]
  · intro g
    unfold fX9_tellsApart_s3 fX9_tellsApart_b3
    dsimp only
    rw [h0, if_pos (by rw [zle (by omega) (by omega)]; omega)]
theorem tells_ok {N L at_ : Nat} (hN1 : 1 ≤ N) (hN : N ≤ 12) (hL : L ≤ 3) (hat : at_ + 12 ≤ 76) (hat1 : 64 ≤ at_) {st : zF} (h0 : st 0 = nI N) (h1 : st 1 = nI L) {go : Nat → Nat → Nat} {near : zF} (hgo : ∀ c i, c < L → i < N → go c i < N ∧ st (28 + 3 * i + c) = nI (go c i)) (hn : ∀ i, i < N → st (16 + i) = near i) {Ls L2 : List Int32} (hr : rowM N (fun i => st (at_ + i)) Ls) (hok : zok N Ls) (hcov : ∀ i, i < N → zpos Ls i ≠ none) {p3 : Int32} (hp : (p3 = 3 ∧ L2.Perm (zfix (zS3 N L go) 12 (zspl (st 2) Ls))) ∨ (p3 = 4 ∧ L2.Perm (zfix (zS4 N near) 12 Ls))) (hso : zsorted L2) (d s e : Int32) (nr ia inw : zF) : ∃ nr2 ia2 inw2 r2, fX9_tellsApart (nI at_) p3 d s e st nr ia inw = some (r2, nr2, ia2, inw2) ∧ (∀ j, ¬ (at_ ≤ j ∧ j < at_ + 12) → r2 j = st j) ∧ rowM N (fun i => r2 (at_ + i)) L2 := by
  obtain ⟨ia1, e1, g1⟩ := tinit_ok hN hat h0 hr hok hcov p3 ia
  have hF : ∃ F ia2 inw2, olp (fX9_tellsApart_s118 st (nI at_) p3 d s e) oFu ((1 : Int32), ia1, inw) = some (ia2, inw2) ∧ zag N ia2 F ∧ zok N F ∧ (∀ i, i < N → zpos F i ≠ none) ∧ L2.Perm F := by
    rcases hp with ⟨rfl, hp⟩ | ⟨rfl, hp⟩
    · rw [if_pos rfl] at g1
      have hok0 := zspl_ok (s := st 2) hok
      have hcov0 : ∀ i, i < N → zpos (zspl (st 2) Ls) i ≠ none := fun i hi q => hcov i hi ((zspl_none hok).mp q)
      obtain ⟨ia2, inw2, e2, g2⟩ := tells_loop hN1 hN h0 (p2 := nI at_) (p3 := 3) (d := d) (s := s) (e := e) (zS3 N L go) (fun Lr => zB3 L go Lr) (fun Lr ia hag i j hi hj => more3_ok hN hL h1 hgo hag hi hj _ _ _ _) (fun Lr a b i j hi hj => zB3_cut hN (fun c i hc hi => (hgo c i hc hi).1) a b hi hj) hok0 hcov0 g1 inw
      obtain ⟨h3, h4⟩ := zfix_ok (zS3 N L go) 12 hok0 hcov0
      exact ⟨_, ia2, inw2, e2, g2, h3, h4, hp⟩
    · rw [if_neg (by decide)] at g1
      obtain ⟨ia2, inw2, e2, g2⟩ := tells_loop hN1 hN h0 (p2 := nI at_) (p3 := 4) (d := d) (s := s) (e := e) (zS4 N near) (fun Lr => zB4 N near Lr) (fun Lr ia hag i j hi hj => more4_ok hN h0 hn hag hi hj _ _ _ _) (fun Lr a b i j hi hj => zB4_cut hN a b hi hj) hok hcov g1 inw
      obtain ⟨h3, h4⟩ := zfix_ok (zS4 N near) 12 hok hcov
      exact ⟨_, ia2, inw2, e2, g2, h3, h4, hp⟩
  obtain ⟨F, ia2, inw2, e2, g2, h3, h4, hp2⟩ := hF
  obtain ⟨nr2, e3, g3⟩ := leastR_ok hN1 hN h0 g2 nr
  obtain ⟨nr3, e4, g4⟩ := arranges2_ok (at_ := at_) hN hat (st := fun j => if at_ ≤ j ∧ j < at_ + N then nr2 (0 + (j - at_)) else st j) (by rw [if_neg (by omega)]; exact h0) (Ls := F) (L2 := L2) (fun i j hi hj => by
    rw [if_pos (by omega), if_pos (by omega), show 0 + (at_ + i - at_) = i by omega, show 0 + (at_ + j - at_) = j by omega]
    exact leastR_eq hN h3 h4 g3 hi hj) h3 h4 hp2 hso d s e nr2
  refine ⟨nr3, ia2, inw2, (fun j => if at_ ≤ j ∧ j < at_ + 12 then nr3 (j - at_) else (if at_ ≤ j ∧ j < at_ + N then nr2 (0 + (j - at_)) else st j)), ?_, fun j hj => ?_, fun i hi => ?_⟩
  rotate_left
  · try dsimp only
    rw [if_neg hj, if_neg (by omega)]
  · try dsimp only
    rw [if_pos (by omega), show at_ + i - at_ = i by omega]
    exact g4 i hi
  · unfold fX9_tellsApart
    skip
    rw [e1, ob1_some, e2, ob2_some, h0, e3, ob1_some]
    refine ob1_of (bring_ok (l1 := 12) (l2 := 76) (a := 0) (b := at_) (n := N) (by omega) (by omega) (by omega) (by omega) (by omega) nr2 st) ?_
    rw [e4]
    rfl
theorem refM_ok {N L at_ : Nat} (hN1 : 1 ≤ N) (hN : N ≤ 12) (hL : L ≤ 3) (hat : at_ + 12 ≤ 76) (hat1 : 64 ≤ at_) {st : zF} (h0 : st 0 = nI N) (h1 : st 1 = nI L) {go : Nat → Nat → Nat} {fin : Int32} {cols near : zF} (hgo : ∀ c i, c < L → i < N → go c i < N ∧ st (28 + 3 * i + c) = nI (go c i)) (hf : st 2 = fin) (hc : ∀ i, i < N → st (4 + i) = cols i) (hn : ∀ i, i < N → st (16 + i) = near i) {Ls L2 : List Int32} (hr : rowM N (fun i => st (at_ + i)) Ls) (hok : zok N Ls) (hcov : ∀ i, i < N → zpos Ls i ≠ none) {p3 : Int32} (hz : zRef N L go fin cols near p3 Ls L2) (d s e : Int32) (nr ia inw : zF) : ∃ nr2 ia2 inw2 r2, fX9_refines (nI at_) p3 d s e st nr ia inw = some (r2, nr2, ia2, inw2) ∧ (∀ j, ¬ (at_ ≤ j ∧ j < at_ + 12) → r2 j = st j) ∧ rowM N (fun i => r2 (at_ + i)) L2 := by
  subst hf
  unfold fX9_refines
  have h34 : ((p3 = 3 ∧ L2.Perm (zfix (zS3 N L go) 12 (zspl (st 2) Ls))) ∨ (p3 = 4 ∧ L2.Perm (zfix (zS4 N near) 12 Ls))) → zsorted L2 → ∃ nr2 ia2 inw2 r2, (if p3 ≤ (2 : Int32) then (ob1 (if p3 = (2 : Int32) then (some (8 : Int32)) else (some (st 0))) (fun z0_1 => (ob2 (olp (fX9_refines_s34 z0_1 p3 d s e (nI at_)) oFu ((0 : Int32), st, nr)) (fun st_4 nr_4 => (some (st_4, nr_4, ia, inw)))))) else (ob4 (fX9_tellsApart (nI at_) p3 d s e st nr ia inw) (fun st_6 nr_6 ia_2 inw_2 => (some (st_6, nr_6, ia_2, inw_2))))) = some (r2, nr2, ia2, inw2) ∧ (∀ j, ¬ (at_ ≤ j ∧ j < at_ + 12) → r2 j = st j) ∧ rowM N (fun i => r2 (at_ + i)) L2 := by
    intro hp hso
    obtain ⟨nr2, ia2, inw2, r2, e1, g1, g2⟩ := tells_ok hN1 hN hL hat hat1 h0 h1 hgo hn hr hok hcov hp hso d s e nr ia inw
    refine ⟨nr2, ia2, inw2, r2, ?_, g1, g2⟩
    rw [if_neg (by rcases hp with ⟨rfl, -⟩ | ⟨rfl, -⟩ <;> decide), e1]
    rfl
  rcases hz with ⟨hp, rfl⟩ | ⟨hp, hq, hso⟩ | ⟨hp, hq, hso⟩
  · have hlen := zSk_len N cols near p3
    have hl20 : (zSk N cols near p3).length ≤ 12 := by
      rw [hlen]
      by_cases h2 : p3 = 2
      · rw [if_pos h2]
        omega
      · rw [if_neg h2]
        exact hN
    have hlen2 : (if p3 = (2 : Int32) then (some (8 : Int32)) else (some (st 0))) = some (nI (zSk N cols near p3).length) := by
      rw [hlen]
      by_cases h2 : p3 = 2
      · rw [if_pos h2, if_pos h2]
        rfl
      · rw [if_neg h2, if_neg h2, h0]
    rw [if_pos (by rcases hp with rfl | rfl | rfl <;> decide), hlen2, ob1_some]
    have key := olp_gen (f := fX9_refines_s34 (nI (zSk N cols near p3).length) p3 d s e (nI at_)) (fun (r : zF × zF) => (∀ j, ¬ (at_ ≤ j ∧ j < at_ + 12) → r.1 j = st j) ∧ rowM N (fun i => r.1 (at_ + i)) (zcuts (zSk N cols near p3) Ls)) (fun k t => ∃ r2 nr2, t = (nI k, r2, nr2) ∧ (∀ j, ¬ (at_ ≤ j ∧ j < at_ + 12) → r2 j = st j) ∧ rowM N (fun i => r2 (at_ + i)) (zcuts ((zSk N cols near p3).take k) Ls)) (zSk N cols near p3).length ?_ ?_ oFu 0 ((0 : Int32), st, nr) (Nat.zero_le _) (oFu_big (by omega)) ⟨st, nr, rfl, fun _ _ => rfl, hr⟩
    · obtain ⟨⟨r2, nr2⟩, e1, g1, g2⟩ := key
      refine ⟨nr2, ia, inw, r2, ?_, g1, g2⟩
      rw [e1]
      rfl
    · rintro k t hk ⟨r2, nr2, rfl, g1, g2⟩
      left
      obtain ⟨v, hv⟩ : ∃ v, (zSk N cols near p3)[k]? = some v := ⟨_, List.getElem?_eq_getElem hk⟩
      have k0 : r2 0 = nI N := by rw [g1 0 (by omega)]; exact h0
      have kc : ∀ i, i < N → r2 (4 + i) = cols i := fun i hi => by rw [g1 _ (by omega)]; exact hc i hi
      have kn : ∀ i, i < N → r2 (16 + i) = near i := fun i hi => by rw [g1 _ (by omega)]; exact hn i hi
      obtain ⟨nr3, e2, g3⟩ := splits_ok hN hat k0 g2 (zcuts_ok _ hok) v d s e nr2
      refine ⟨(nI (k + 1), (fun j => if at_ ≤ j ∧ j < at_ + 12 then nr3 (j - at_) else r2 j), nr3), ?_, _, _, rfl, fun j hj => ?_, fun i hi => ?_⟩
      · unfold fX9_refines_s34 fX9_refines_b34
        dsimp only
        rw [if_neg (by rw [zle (by omega) (by omega)]; omega), setOfM_ok hN hp k0 kc kn hv d s e, ob1_some, e2, ob2_some, nI_1]
      · try dsimp only
        rw [if_neg hj]
        exact g1 j hj
      · try dsimp only
        rw [if_pos (by omega), show at_ + i - at_ = i by omega]
        have ht : (zSk N cols near p3).take (k + 1) = (zSk N cols near p3).take k ++ [v] := by
          rw [List.take_add_one, hv]
          rfl
        rw [ht, zcuts_app, zcuts_one]
        exact g3 i hi
    · rintro t ⟨r2, nr2, rfl, g1, g2⟩
      rw [List.take_length] at g2
      refine ⟨(r2, nr2), ?_, g1, g2⟩
      unfold fX9_refines_s34 fX9_refines_b34
      dsimp only
      rw [if_pos (by rw [zle (by omega) (by omega)]; omega)]
  · exact h34 (Or.inl ⟨hp, hq⟩) hso
  · exact h34 (Or.inr ⟨hp, hq⟩) hso
theorem tinit_a_ok {N at_ : Nat} (hN : N ≤ 12) (hat : at_ + 12 ≤ 12) {st asd : zF} (h0 : st 0 = nI N) {Ls : List Int32} (hr : rowM N (fun i => asd (at_ + i)) Ls) (hok : zok N Ls) (hcov : ∀ i, i < N → zpos Ls i ≠ none) (p3 : Int32) (ia : zF) : ∃ ia2, olp (fX9_tellsApart_a_s3 st p3 (nI at_) asd) oFu ((0 : Int32), ia) = some ia2 ∧ zag N ia2 (if p3 = 3 then zspl (st 2) Ls else Ls) := by
  have hstep : ∀ i j (g : zF), i < N → j < N → fX9_tellsApart_a_s17 st p3 (nI i) (nI at_) asd (nI j, g) = some (.inl (nI (j + 1), upd g (12 * i + j) (z01 (zsb (if p3 = 3 then zspl (st 2) Ls else Ls) i j)))) := by
    intro i j g hi hj
    have hL0 : zsb (if p3 = 3 then zspl (st 2) Ls else Ls) i j = true ↔ (asd (at_ + i) = asd (at_ + j) ∧ (p3 = 3 → bt (st 2) i = bt (st 2) j)) := by
      have hrow : asd (at_ + i) = asd (at_ + j) ↔ zsame Ls i j := rowM_same hN hr hok hcov hi hj
      rw [hrow, zsb_iff]
      by_cases h3 : p3 = 3
      · rw [if_pos h3, zsame_spl (by omega) (by omega)]
        exact ⟨fun h => ⟨h.1, fun _ => h.2⟩, fun h => ⟨h.1, h.2 h3⟩⟩
      · rw [if_neg h3]
        exact ⟨fun h => ⟨h, fun q => absurd q h3⟩, fun h => h.1⟩
    generalize zsb (if p3 = 3 then zspl (st 2) Ls else Ls) i j = w at hL0 ⊢
    have hz7 : (if p3 = (3 : Int32) then (ob1 (fX9_has (st 2) (nI i)) (fun r_9 => (ob1 (fX9_has (st 2) (nI j)) (fun r_10 => (if r_9 = r_10 then (some (0 : Int32)) else (some (1 : Int32))))))) else (some (0 : Int32))) = some (z01 (decide (p3 = 3 → bt (st 2) i = bt (st 2) j))) := by
      by_cases h3 : p3 = 3
      · rw [if_pos h3, has_ok _ (by omega), ob1_some, has_ok _ (by omega), ob1_some]
        cases hbi : bt (st 2) i <;> cases hbj : bt (st 2) j <;> simp [h3, z01]
      · rw [if_neg h3, decide_eq_true (fun q => absurd q h3)]
        rfl
    have hz8 : (if (asd (at_ + i)) = (asd (at_ + j)) then (if z01 (decide (p3 = 3 → bt (st 2) i = bt (st 2) j)) = (0 : Int32) then (some (0 : Int32)) else (some (1 : Int32))) else (some (1 : Int32))) = some (z01 w) := by
      by_cases hR : asd (at_ + i) = asd (at_ + j)
      · rw [if_pos hR]
        by_cases hc : p3 = 3 → bt (st 2) i = bt (st 2) j
        · rw [hL0.mpr ⟨hR, hc⟩, decide_eq_true hc]
          rfl
        · have hw : w = false := by
            cases w with
            | false => rfl
            | true => exact absurd (hL0.mp rfl).2 hc
          rw [hw, decide_eq_false hc]
          rfl
      · have hw : w = false := by
          cases w with
          | false => rfl
          | true => exact absurd (hL0.mp rfl).1 hR
        rw [if_neg hR, hw]
        rfl
    unfold fX9_tellsApart_a_s17 fX9_tellsApart_a_b17
    dsimp only
    rw [h0, if_neg (by rw [zle (by omega) (by omega)]; omega), hz7, ob1_some, nI_add, nI_add, ogd_ok (by omega) (by omega), ogd_ok (by omega) (by omega), zcl (by omega), zcl (by omega), hz8, ob1_some, z12, ogd_ok (by omega) (by omega), zcl (by omega), nar01, nI_1]
  refine tab2 hN (f2 := fun i => fX9_tellsApart_a_s17 st p3 (nI i) (nI at_) asd) (f1 := fX9_tellsApart_a_s3 st p3 (nI at_) asd) _ hstep ?_ ?_ ?_ ia
  · intro i g hi
    unfold fX9_tellsApart_a_s17 fX9_tellsApart_a_b17
    dsimp only
    rw [h0, if_pos (by rw [zle (by omega) (by omega)]; omega)]
  · intro i g g2 hi e1
    have e1 : olp (fX9_tellsApart_a_s17 st p3 (nI i) (nI at_) asd) oFu ((0 : Int32), g) = some g2 := e1
    unfold fX9_tellsApart_a_s3 fX9_tellsApart_a_b3
    dsimp only
    rw [h0, if_neg (by rw [zle (by omega) (by omega)]; omega), e1, ob1_some, nI_1]
  · intro g
    unfold fX9_tellsApart_a_s3 fX9_tellsApart_a_b3
    dsimp only
    rw [h0, if_pos (by rw [zle (by omega) (by omega)]; omega)]
theorem tells_a_ok {N L at_ : Nat} (hN1 : 1 ≤ N) (hN : N ≤ 12) (hL : L ≤ 3) (hat : at_ + 12 ≤ 12) {st asd : zF} (h0 : st 0 = nI N) (h1 : st 1 = nI L) {go : Nat → Nat → Nat} {near : zF} (hgo : ∀ c i, c < L → i < N → go c i < N ∧ st (28 + 3 * i + c) = nI (go c i)) (hn : ∀ i, i < N → st (16 + i) = near i) {Ls L2 : List Int32} (hr : rowM N (fun i => asd (at_ + i)) Ls) (hok : zok N Ls) (hcov : ∀ i, i < N → zpos Ls i ≠ none) {p3 : Int32} (hp : (p3 = 3 ∧ L2.Perm (zfix (zS3 N L go) 12 (zspl (st 2) Ls))) ∨ (p3 = 4 ∧ L2.Perm (zfix (zS4 N near) 12 Ls))) (hso : zsorted L2) (d s e : Int32) (nr ia inw : zF) : ∃ nr2 ia2 inw2 r2, fX9_tellsApart_a (nI at_) p3 d s e st nr ia inw asd = some (nr2, ia2, inw2, r2) ∧ (∀ j, ¬ (at_ ≤ j ∧ j < at_ + 12) → r2 j = asd j) ∧ rowM N (fun i => r2 (at_ + i)) L2 := by
  obtain ⟨ia1, e1, g1⟩ := tinit_a_ok hN hat h0 hr hok hcov p3 ia
  have hF : ∃ F ia2 inw2, olp (fX9_tellsApart_s118 st (nI at_) p3 d s e) oFu ((1 : Int32), ia1, inw) = some (ia2, inw2) ∧ zag N ia2 F ∧ zok N F ∧ (∀ i, i < N → zpos F i ≠ none) ∧ L2.Perm F := by
    rcases hp with ⟨rfl, hp⟩ | ⟨rfl, hp⟩
    · rw [if_pos rfl] at g1
      have hok0 := zspl_ok (s := st 2) hok
      have hcov0 : ∀ i, i < N → zpos (zspl (st 2) Ls) i ≠ none := fun i hi q => hcov i hi ((zspl_none hok).mp q)
      obtain ⟨ia2, inw2, e2, g2⟩ := tells_loop hN1 hN h0 (p2 := nI at_) (p3 := 3) (d := d) (s := s) (e := e) (zS3 N L go) (fun Lr => zB3 L go Lr) (fun Lr ia hag i j hi hj => more3_ok hN hL h1 hgo hag hi hj _ _ _ _) (fun Lr a b i j hi hj => zB3_cut hN (fun c i hc hi => (hgo c i hc hi).1) a b hi hj) hok0 hcov0 g1 inw
      obtain ⟨h3, h4⟩ := zfix_ok (zS3 N L go) 12 hok0 hcov0
      exact ⟨_, ia2, inw2, e2, g2, h3, h4, hp⟩
    · rw [if_neg (by decide)] at g1
      obtain ⟨ia2, inw2, e2, g2⟩ := tells_loop hN1 hN h0 (p2 := nI at_) (p3 := 4) (d := d) (s := s) (e := e) (zS4 N near) (fun Lr => zB4 N near Lr) (fun Lr ia hag i j hi hj => more4_ok hN h0 hn hag hi hj _ _ _ _) (fun Lr a b i j hi hj => zB4_cut hN a b hi hj) hok hcov g1 inw
      obtain ⟨h3, h4⟩ := zfix_ok (zS4 N near) 12 hok hcov
      exact ⟨_, ia2, inw2, e2, g2, h3, h4, hp⟩
  obtain ⟨F, ia2, inw2, e2, g2, h3, h4, hp2⟩ := hF
  obtain ⟨nr2, e3, g3⟩ := leastR_ok hN1 hN h0 g2 nr
  obtain ⟨nr3, e4, g4⟩ := arranges2_ok_a (at_ := at_) hN hat (asd := fun j => if at_ ≤ j ∧ j < at_ + N then nr2 (0 + (j - at_)) else asd j) h0 (Ls := F) (L2 := L2) (fun i j hi hj => by
    rw [if_pos (by omega), if_pos (by omega), show 0 + (at_ + i - at_) = i by omega, show 0 + (at_ + j - at_) = j by omega]
    exact leastR_eq hN h3 h4 g3 hi hj) h3 h4 hp2 hso d s e nr2
  refine ⟨nr3, ia2, inw2, (fun j => if at_ ≤ j ∧ j < at_ + 12 then nr3 (j - at_) else (if at_ ≤ j ∧ j < at_ + N then nr2 (0 + (j - at_)) else asd j)), ?_, fun j hj => ?_, fun i hi => ?_⟩
  rotate_left
  · try dsimp only
    rw [if_neg hj, if_neg (by omega)]
  · try dsimp only
    rw [if_pos (by omega), show at_ + i - at_ = i by omega]
    exact g4 i hi
  · unfold fX9_tellsApart_a
    simp only [ta118, ta299]
    rw [e1, ob1_some, e2, ob2_some, h0, e3, ob1_some]
    refine ob1_of (bring_ok (l1 := 12) (l2 := 12) (a := 0) (b := at_) (n := N) (by omega) (by omega) (by omega) (by omega) (by omega) nr2 asd) ?_
    rw [e4]
    rfl
theorem refM_a_ok {N L at_ : Nat} (hN1 : 1 ≤ N) (hN : N ≤ 12) (hL : L ≤ 3) (hat : at_ + 12 ≤ 12) {st asd : zF} (h0 : st 0 = nI N) (h1 : st 1 = nI L) {go : Nat → Nat → Nat} {fin : Int32} {cols near : zF} (hgo : ∀ c i, c < L → i < N → go c i < N ∧ st (28 + 3 * i + c) = nI (go c i)) (hf : st 2 = fin) (hc : ∀ i, i < N → st (4 + i) = cols i) (hn : ∀ i, i < N → st (16 + i) = near i) {Ls L2 : List Int32} (hr : rowM N (fun i => asd (at_ + i)) Ls) (hok : zok N Ls) (hcov : ∀ i, i < N → zpos Ls i ≠ none) {p3 : Int32} (hz : zRef N L go fin cols near p3 Ls L2) (d s e : Int32) (nr ia inw : zF) : ∃ nr2 ia2 inw2 r2, fX9_refines_a (nI at_) p3 d s e st nr ia inw asd = some (nr2, ia2, inw2, r2) ∧ (∀ j, ¬ (at_ ≤ j ∧ j < at_ + 12) → r2 j = asd j) ∧ rowM N (fun i => r2 (at_ + i)) L2 := by
  subst hf
  unfold fX9_refines_a
  have h34 : ((p3 = 3 ∧ L2.Perm (zfix (zS3 N L go) 12 (zspl (st 2) Ls))) ∨ (p3 = 4 ∧ L2.Perm (zfix (zS4 N near) 12 Ls))) → zsorted L2 → ∃ nr2 ia2 inw2 r2, (if p3 ≤ (2 : Int32) then (ob1 (if p3 = (2 : Int32) then (some (8 : Int32)) else (some (st 0))) (fun z0_1 => (ob2 (olp (fX9_refines_a_s34 z0_1 p3 d s e st (nI at_)) oFu ((0 : Int32), nr, asd)) (fun nr_4 asd_4 => (some (nr_4, ia, inw, asd_4)))))) else (ob4 (fX9_tellsApart_a (nI at_) p3 d s e st nr ia inw asd) (fun nr_6 ia_2 inw_2 asd_6 => (some (nr_6, ia_2, inw_2, asd_6))))) = some (nr2, ia2, inw2, r2) ∧ (∀ j, ¬ (at_ ≤ j ∧ j < at_ + 12) → r2 j = asd j) ∧ rowM N (fun i => r2 (at_ + i)) L2 := by
    intro hp hso
    obtain ⟨nr2, ia2, inw2, r2, e1, g1, g2⟩ := tells_a_ok hN1 hN hL hat h0 h1 hgo hn hr hok hcov hp hso d s e nr ia inw
    refine ⟨nr2, ia2, inw2, r2, ?_, g1, g2⟩
    rw [if_neg (by rcases hp with ⟨rfl, -⟩ | ⟨rfl, -⟩ <;> decide), e1]
    rfl
  rcases hz with ⟨hp, rfl⟩ | ⟨hp, hq, hso⟩ | ⟨hp, hq, hso⟩
  · have hlen := zSk_len N cols near p3
    have hl20 : (zSk N cols near p3).length ≤ 12 := by
      rw [hlen]
      by_cases h2 : p3 = 2
      · rw [if_pos h2]
        omega
      · rw [if_neg h2]
        exact hN
    have hlen2 : (if p3 = (2 : Int32) then (some (8 : Int32)) else (some (st 0))) = some (nI (zSk N cols near p3).length) := by
      rw [hlen]
      by_cases h2 : p3 = 2
      · rw [if_pos h2, if_pos h2]
        rfl
      · rw [if_neg h2, if_neg h2, h0]
    rw [if_pos (by rcases hp with rfl | rfl | rfl <;> decide), hlen2, ob1_some]
    have key := olp_gen (f := fX9_refines_a_s34 (nI (zSk N cols near p3).length) p3 d s e st (nI at_)) (fun (r : zF × zF) => (∀ j, ¬ (at_ ≤ j ∧ j < at_ + 12) → r.2 j = asd j) ∧ rowM N (fun i => r.2 (at_ + i)) (zcuts (zSk N cols near p3) Ls)) (fun k t => ∃ r2 nr2, t = (nI k, nr2, r2) ∧ (∀ j, ¬ (at_ ≤ j ∧ j < at_ + 12) → r2 j = asd j) ∧ rowM N (fun i => r2 (at_ + i)) (zcuts ((zSk N cols near p3).take k) Ls)) (zSk N cols near p3).length ?_ ?_ oFu 0 ((0 : Int32), nr, asd) (Nat.zero_le _) (oFu_big (by omega)) ⟨asd, nr, rfl, fun _ _ => rfl, hr⟩
    · obtain ⟨⟨nr2, r2⟩, e1, g1, g2⟩ := key
      refine ⟨nr2, ia, inw, r2, ?_, g1, g2⟩
      rw [e1]
      rfl
    · rintro k t hk ⟨r2, nr2, rfl, g1, g2⟩
      left
      obtain ⟨v, hv⟩ : ∃ v, (zSk N cols near p3)[k]? = some v := ⟨_, List.getElem?_eq_getElem hk⟩
      skip
      obtain ⟨nr3, e2, g3⟩ := splits_ok_a hN hat h0 g2 (zcuts_ok _ hok) v d s e nr2
      refine ⟨(nI (k + 1), nr3, (fun j => if at_ ≤ j ∧ j < at_ + 12 then nr3 (j - at_) else r2 j)), ?_, _, _, rfl, fun j hj => ?_, fun i hi => ?_⟩
      · unfold fX9_refines_a_s34 fX9_refines_a_b34
        dsimp only
        rw [if_neg (by rw [zle (by omega) (by omega)]; omega), setOfM_ok hN hp h0 hc hn hv d s e, ob1_some, e2, ob2_some, nI_1]
      · try dsimp only
        rw [if_neg hj]
        exact g1 j hj
      · try dsimp only
        rw [if_pos (by omega), show at_ + i - at_ = i by omega]
        have ht : (zSk N cols near p3).take (k + 1) = (zSk N cols near p3).take k ++ [v] := by
          rw [List.take_add_one, hv]
          rfl
        rw [ht, zcuts_app, zcuts_one]
        exact g3 i hi
    · rintro t ⟨r2, nr2, rfl, g1, g2⟩
      rw [List.take_length] at g2
      refine ⟨(nr2, r2), ?_, g1, g2⟩
      unfold fX9_refines_a_s34 fX9_refines_a_b34
      dsimp only
      rw [if_pos (by rw [zle (by omega) (by omega)]; omega)]
  · exact h34 (Or.inl ⟨hp, hq⟩) hso
  · exact h34 (Or.inr ⟨hp, hq⟩) hso
theorem ofIt_ok {N L : Nat} (hN1 : 1 ≤ N) (hN : N ≤ 12) (hL : L ≤ 3) {st : zF} (h0 : st 0 = nI N) (h1 : st 1 = nI L) {go : Nat → Nat → Nat} {fin : Int32} {cols near : zF} (hgo : ∀ c i, c < L → i < N → go c i < N ∧ st (28 + 3 * i + c) = nI (go c i)) (hf : st 2 = fin) (hc : ∀ i, i < N → st (4 + i) = cols i) (hn : ∀ i, i < N → st (16 + i) = near i) {L2 : List Int32} {p : Int32} (hz : zRef N L go fin cols near p [zall N] L2) (d s e : Int32) (nr ia inw asd : zF) : ∃ nr2 ia2 inw2 a2, fX9_ofItself p d s e st nr ia inw asd = some (nr2, ia2, inw2, a2) ∧ rowM N a2 L2 := by
  have hfill : ∃ a1, olp (fX9_ofItself_s2) oFu ((0 : Int32), asd) = some a1 ∧ ∀ i, i < 12 → a1 i = 0 := by
    refine olp_gen (f := fX9_ofItself_s2) (fun (r : zF) => ∀ i, i < 12 → r i = 0) (fun k t => ∃ g, t = (nI k, g) ∧ ∀ i, i < k → g i = 0) 12 ?_ ?_ oFu 0 ((0 : Int32), asd) (Nat.zero_le _) (oFu_big (by omega)) ⟨asd, rfl, fun i h => absurd h (Nat.not_lt_zero i)⟩
    · rintro k t hk ⟨g, rfl, h⟩
      left
      refine ⟨(nI (k + 1), upd g k 0), ?_, _, rfl, fun i hi => ?_⟩
      · unfold fX9_ofItself_s2 fX9_ofItself_b2
        dsimp only
        rw [if_neg (by rw [show (12 : Int32) = nI 12 from rfl, zle (by omega) (by omega)]; omega), ogd_ok (by omega) (by omega), zcl (by omega), nI_1]
      · by_cases hik : i = k
        · subst hik
          rw [pk_us]
        · rw [pk_un (by omega)]
          exact h i (by omega)
    · rintro t ⟨g, rfl, h⟩
      exact ⟨g, rfl, h⟩
  obtain ⟨a1, e1, g1⟩ := hfill
  obtain ⟨nr2, ia2, inw2, a2, e2, -, g2⟩ := refM_a_ok (at_ := 0) (asd := a1) hN1 hN hL (by omega) h0 h1 hgo hf hc hn (Ls := [zall N]) (zall_rowM hN (fun i hi => by rw [Nat.zero_add]; exact g1 i (by omega))) (zall_ok hN1 hN) (fun i hi => by rw [zall_pos hN hi]; simp) hz d s e nr ia inw
  refine ⟨nr2, ia2, inw2, a2, ?_, ?_⟩
  · unfold fX9_ofItself
    refine ob1_of e1 ?_
    refine (congrArg (fun z => ob4 z _) e2).trans ?_
    rfl
  · intro i hi
    have := g2 i hi
    dsimp only at this
    rw [Nat.zero_add] at this
    exact this
section ZG
variable {sn sl sfin swk : Int32} {scols snear slds : zF} {qc : Int32} {qf st : zF} {N L : Nat} {go : Nat → Nat → Nat} {Ls : List Int32} {hnx hct deeds : Int32} {rg : Nat → zSV} {past : zF}
theorem aside_ok (h : zRel sn sl sfin swk scols snear slds qc qf st N L go Ls) {p : Int32} (hp : p = 0 ∨ p = 1 ∨ p = 2 ∨ p = 3 ∨ p = 4) (d s e bc zc : Int32) (bf zf nr ia inw asd : zF) : ∃ b1 b2 c f n1 i1 w1 a1 L2, fX8_refineAside p sn sl sfin swk scols snear slds bc bf zc zf = some (b1, b2, c, f) ∧ fX9_ofItself p d s e st nr ia inw asd = some (n1, i1, w1, a1) ∧ rowC c f L2 ∧ zok N L2 ∧ rowM N a1 L2 := by
  obtain ⟨⟨hN1, hN⟩, ⟨hL1, hL⟩, ⟨en, eb0⟩, ⟨el, eb1⟩, ⟨ef, hfs⟩, ew, hcols, hnear, hsym, hirr, hgo, hrc, hok, hcov, hrm⟩ := h
  subst en el
  obtain ⟨c0, f0, e0, hr0⟩ := gather_ok (zall N) zc zf
  obtain ⟨b1, b2, c, f, L2, e1, g1, g2⟩ := refX_ok hN hL hp sfin swk scols (near := snear) (lds := slds) (go := go) (fun i hi => zsub_le (hnear i hi).2 hN) (fun c i hc hi => ⟨(hgo c i hc hi).1, (hgo c i hc hi).2.1⟩) hr0 (zall_ok hN1 hN) bc bf
  obtain ⟨g3, -⟩ := zRef_ok g2 (zall_ok hN1 hN) (fun i hi => by rw [zall_pos hN hi]; simp)
  obtain ⟨n1, i1, w1, a1, e2, g4⟩ := ofIt_ok hN1 hN hL eb0 eb1 (go := go) (fun c i hc hi => ⟨(hgo c i hc hi).1, (hgo c i hc hi).2.2⟩) ef.symm (fun i hi => (hcols i hi).1.symm) (fun i hi => (hnear i hi).1.symm) g2 d s e nr ia inw asd
  refine ⟨b1, b2, c, f, n1, i1, w1, a1, L2, ?_, e2, g1, g3, g4⟩
  unfold fX8_refineAside fX6_all
  rw [ob1_some]
  refine ob2_of e0 ?_
  rw [e1]
  rfl
theorem kind5 {x : Int32} : ((x = 0 ∨ x = 1 ∨ x = 2 ∨ x = 3 ∨ x = 4) ∧ fX8_isRefinedKind x = some 1 ∧ fX9_in x 0 4 = some 1) ∨ (fX8_isRefinedKind x = some 0 ∧ fX9_in x 0 4 = some 0) := by
  rcases zcases x (show 5 < 2 ^ 31 by omega) with ⟨k, hk, rfl⟩ | hx
  · left
    have : k = 0 ∨ k = 1 ∨ k = 2 ∨ k = 3 ∨ k = 4 := by omega
    rcases this with rfl | rfl | rfl | rfl | rfl
    · exact ⟨Or.inl rfl, by decide, by decide⟩
    · exact ⟨Or.inr (Or.inl rfl), by decide, by decide⟩
    · exact ⟨Or.inr (Or.inr (Or.inl rfl)), by decide, by decide⟩
    · exact ⟨Or.inr (Or.inr (Or.inr (Or.inl rfl))), by decide, by decide⟩
    · exact ⟨Or.inr (Or.inr (Or.inr (Or.inr rfl))), by decide, by decide⟩
  · right
    unfold fX8_isRefinedKind fX9_in
    by_cases h0 : x < 0
    · rw [if_pos h0]
      exact ⟨rfl, rfl⟩
    · have h4 : (4 : Int32) < x := by
        have h2 := hx.resolve_left h0
        rw [Int32.le_iff_toInt_le, nI_toInt (by omega)] at h2
        rw [Int32.lt_iff_toInt_lt]
        show (4 : Int) < _
        omega
      rw [if_neg h0, if_pos h4]
      exact ⟨rfl, rfl⟩
theorem alike_ok (h : zRel sn sl sfin swk scols snear slds qc qf st N L go Ls) (p1 p2 p3 d s e bc zc : Int32) (bf zf nr ia inw asd : zF) : ∃ r b1 b2 c f n1 i1 w1 a1, fX8_alike p1 p2 p3 sn sl sfin swk scols snear slds bc bf zc zf = some (r, b1, b2, c, f) ∧ fX9_alike p1 p2 p3 d s e st nr ia inw asd = some (r, n1, i1, w1, a1) := by
  have h0 := h
  obtain ⟨⟨hN1, hN⟩, -, ⟨en, eb0⟩, -⟩ := h
  unfold fX8_alike fX9_alike
  rcases zcases p1 (show N < 2 ^ 31 by omega) with ⟨i, hi, rfl⟩ | hx
  · rcases zcases p2 (show N < 2 ^ 31 by omega) with ⟨j, hj, rfl⟩ | hx
    · rcases kind5 (x := p3) with ⟨hp, k1, k2⟩ | ⟨k1, k2⟩
      · obtain ⟨b1, b2, c, f, n1, i1, w1, a1, L2, e1, e2, g1, g2, g3⟩ := aside_ok h0 hp d s e bc zc bf zf nr ia inw asd
        rw [e1, e2, k1, k2, en, hasItem_in hi hN, hasItem_in hj hN, isItem_in hi hN eb0, isItem_in hj hN eb0]
        simp only [ob1_some, if_neg n10, ob4_some]
        rw [place_ok g1 (show i < 32 by omega), place_ok g1 (show j < 32 by omega), ogd_ok (by omega) (by omega), ogd_ok (by omega) (by omega), zcl (by omega), zcl (by omega), g3 i hi, g3 j hj]
        simp only [ob1_some]
        by_cases he : zpI (zpos L2 i) = zpI (zpos L2 j)
        · rw [if_pos he, if_pos he]
          exact ⟨_, _, _, _, _, _, _, _, _, rfl, rfl⟩
        · rw [if_neg he, if_neg he]
          exact ⟨_, _, _, _, _, _, _, _, _, rfl, rfl⟩
      · rw [k1, k2, en, hasItem_in hi hN, hasItem_in hj hN, isItem_in hi hN eb0, isItem_in hj hN eb0]
        exact ⟨_, _, _, _, _, _, _, _, _, rfl, rfl⟩
    · rw [en, hasItem_in hi hN, hasItem_out hx, isItem_in hi hN eb0, isItem_out hN1 hN hx eb0]
      exact ⟨_, _, _, _, _, _, _, _, _, rfl, rfl⟩
  · rw [en, hasItem_out hx, isItem_out hN1 hN hx eb0]
    exact ⟨_, _, _, _, _, _, _, _, _, rfl, rfl⟩
theorem many_ok (h : zRel sn sl sfin swk scols snear slds qc qf st N L go Ls) {p : Int32} (hp : p = 0 ∨ p = 1 ∨ p = 2 ∨ p = 3 ∨ p = 4) (d s e bc zc : Int32) (bf zf nr ia inw asd : zF) : ∃ b1 b2 c f n1 i1 w1 a1, fX8_refineAside p sn sl sfin swk scols snear slds bc bf zc zf = some (b1, b2, c, f) ∧ fX9_refinedMany p d s e st nr ia inw asd = some (c, n1, i1, w1, a1) := by
  obtain ⟨b1, b2, c, f, n1, i1, w1, a1, L2, e1, e2, g1, g2, g3⟩ := aside_ok h hp d s e bc zc bf zf nr ia inw asd
  obtain ⟨⟨hN1, hN⟩, -, ⟨en, eb0⟩, -⟩ := h
  refine ⟨b1, b2, c, f, n1, i1, w1, a1, e1, ?_⟩
  have hcl := classes_ok_a (at_ := 0) (asd := a1) hN (by omega) eb0 d s e
  have hm : zmx (fun i => a1 (0 + i)) N + 1 = nI L2.length := rowM_cls hN (fun i hi => by rw [Nat.zero_add]; exact g3 i hi) g2
  rw [hm] at hcl
  have hcl : fX9_classes_a 0 d s e st a1 = some (nI L2.length) := hcl
  unfold fX9_refinedMany
  rw [e2, ob4_some, hcl, ob1_some, g1.1]
theorem refine_ok (h : zRel sn sl sfin swk scols snear slds qc qf st N L go Ls) (hh : zHist hnx hct rg deeds past) (p1 sd ent bc : Int32) (bf nr ia inw : zF) : ∃ r a b c1 c2 b1 b2 g d2 st2 q3 n2 i2 w2, fX8_refine p1 hnx hct sn sl sfin swk scols snear slds qc qf bc bf rg = some (r, a, b, c1, c2, b1, b2, g) ∧ fX9_refine p1 deeds sd ent st past nr ia inw = some (r, d2, st2, q3, n2, i2, w2) ∧ zR9 (sn, sl, sfin, swk, scols, snear, slds, c1, c2) st2 ∧ zHist a b g d2 q3 := by
  have h0 := h
  obtain ⟨hnx2, hct2, rg2, deeds2, past2, eX, eM, hh2⟩ := remember_ok h0 hh sd ent
  obtain ⟨⟨hN1, hN⟩, ⟨hL1, hL⟩, ⟨en, eb0⟩, ⟨el, eb1⟩, ⟨ef, hfs⟩, ew, hcols, hnear, hsym, hirr, hgo, hrc, hok, hcov, hrm⟩ := h
  unfold fX8_refine fX9_refine
  rcases kind5 (x := p1) with ⟨hp, k1, k2⟩ | ⟨k1, k2⟩
  · rw [k1, k2, eX, eM]
    simp only [ob1_some, if_neg n10, ob3_some, ob2_some]
    obtain ⟨b1, b2, c, f, L2, e1, g1, g2⟩ := refX_ok hN hL hp sfin swk scols (near := snear) (lds := slds) (go := go) (fun i hi => zsub_le (hnear i hi).2 hN) (fun c i hc hi => ⟨(hgo c i hc hi).1, (hgo c i hc hi).2.1⟩) hrc hok bc bf
    obtain ⟨g3, g4⟩ := zRef_ok g2 hok hcov
    obtain ⟨n2, i2, w2, st2, e2, g5, g6⟩ := refM_ok (at_ := 64) hN1 hN hL (by omega) (by omega) eb0 eb1 (go := go) (fun c i hc hi => ⟨(hgo c i hc hi).1, (hgo c i hc hi).2.2⟩) ef.symm (fun i hi => (hcols i hi).1.symm) (fun i hi => (hnear i hi).1.symm) hrm hok hcov g2 deeds2 sd ent nr ia inw
    have e2 : fX9_refines 64 p1 deeds2 sd ent st nr ia inw = some (st2, n2, i2, w2) := e2
    have hr2 := zRel_row h0 g1 g3 g4 (fun j hj => g5 j (by omega)) g6
    have hcl2 := clsM_ok hr2 deeds2 sd ent
    rw [← en, ← el] at e1
    rw [e1, e2, ob4_some, ob4_some, hcl2, ob1_some, ← g1.1]
    exact ⟨_, _, _, _, _, _, _, _, _, _, _, _, _, _, rfl, rfl, ⟨_, _, _, _, hr2⟩, hh2⟩
  · rw [k1, k2]
    exact ⟨_, _, _, _, _, _, _, _, _, _, _, _, _, _, rfl, rfl, ⟨N, L, go, Ls, h0⟩, hh⟩
end ZG
