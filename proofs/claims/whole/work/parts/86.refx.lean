/-! ===== refined: the object's side ===== -/
theorem zflat1 : ∀ (S : List Int32), (S.map (fun s => [s])).flatten = S
  | [] => rfl
  | a :: t => by rw [List.map_cons, List.flatten_cons, zflat1 t]; rfl
theorem cuts_loop {N : Nat} {f : Int32 × Int32 × zF → Option ((Int32 × Int32 × zF) ⊕ (Int32 × zF))} (SS : List (List Int32)) (i0 : Nat) (hlen : SS.length < 1000) (hs : ∀ k S, SS[k]? = some S → ∀ c g Lc, rowC c g Lc → zok N Lc → ∃ c2 g2, f (nI (i0 + k), c, g) = some (.inl (nI (i0 + k + 1), c2, g2)) ∧ rowC c2 g2 (zcuts S Lc)) (hx : ∀ c g, f (nI (i0 + SS.length), c, g) = some (.inr (c, g))) {qc : Int32} {qf : zF} {Ls : List Int32} (hq : rowC qc qf Ls) (hok : zok N Ls) : ∃ c g, olp f oFu (nI i0, qc, qf) = some (c, g) ∧ rowC c g (zcuts SS.flatten Ls) := by
  have key := olp_gen (f := f) (fun (r : Int32 × zF) => rowC r.1 r.2 (zcuts SS.flatten Ls)) (fun k s => ∃ c g, s = (nI (i0 + k), c, g) ∧ rowC c g (zcuts (SS.take k).flatten Ls)) SS.length ?_ ?_ oFu 0 (nI i0, qc, qf) (Nat.zero_le _) (oFu_big (by omega)) ⟨qc, qf, rfl, ?_⟩
  · obtain ⟨⟨c, g⟩, e, h⟩ := key
    exact ⟨c, g, e, h⟩
  · rintro k s hk ⟨c, g, rfl, h⟩
    left
    obtain ⟨S, hS⟩ : ∃ S, SS[k]? = some S := ⟨_, List.getElem?_eq_getElem hk⟩
    obtain ⟨c2, g2, e, h2⟩ := hs k S hS c g _ h (zcuts_ok _ hok)
    refine ⟨_, e, c2, g2, rfl, ?_⟩
    have ht : SS.take (k + 1) = SS.take k ++ [S] := by
      rw [List.take_add_one, hS]
      rfl
    rw [ht, List.flatten_append, zcuts_app, List.flatten_cons, List.flatten_nil, List.append_nil]
    exact h2
  · rintro s ⟨c, g, rfl, h⟩
    refine ⟨_, hx c g, ?_⟩
    rw [List.take_length] at h
    exact h
  · exact hq
theorem cut_loop {N : Nat} (hN : N ≤ 12) {f : Int32 × Int32 × zF → Option ((Int32 × Int32 × zF) ⊕ (Int32 × zF))} (S : List Int32) (i0 : Nat) (hlen : S.length < 1000) (hs : ∀ k s, S[k]? = some s → ∀ c g, f (nI (i0 + k), c, g) = ob2 (fX5_cutBy s c g) (fun c2 g2 => some (.inl (nI (i0 + k + 1), c2, g2)))) (hx : ∀ c g, f (nI (i0 + S.length), c, g) = some (.inr (c, g))) {qc : Int32} {qf : zF} {Ls : List Int32} (hq : rowC qc qf Ls) (hok : zok N Ls) : ∃ c g, olp f oFu (nI i0, qc, qf) = some (c, g) ∧ rowC c g (zcuts S Ls) := by
  have h := cuts_loop (N := N) (f := f) (S.map (fun s => [s])) i0 (by rw [List.length_map]; exact hlen) ?_ ?_ hq hok
  · rw [zflat1] at h
    exact h
  · intro k T hT c g Lc h1 h2
    rw [List.getElem?_map] at hT
    cases hk : S[k]? with
    | none => rw [hk] at hT; cases hT
    | some s =>
      rw [hk] at hT
      simp only [Option.map_some, Option.some.injEq] at hT
      subst hT
      obtain ⟨c2, g2, e, h3⟩ := cut_ok hN h1 h2 s
      refine ⟨c2, g2, ?_, h3⟩
      rw [hs k s hk, e]
      rfl
  · rw [List.length_map]
    exact hx
theorem cutLetters_ok {N L : Nat} (hN : N ≤ 12) (hL : L ≤ 3) (sfin swk : Int32) {slds : zF} {go : Nat → Nat → Nat} (hgo : ∀ c i, c < L → i < N → go c i < N ∧ slds (c * 12 + i) = nI (go c i)) {bc : Int32} {bf : zF} {B : List Int32} (hb : rowC bc bf B) {qc : Int32} {qf : zF} {Ls : List Int32} (hq : rowC qc qf Ls) (hok : zok N Ls) : ∃ c f, fX4_cutByLetters bc bf (nI N) (nI L) sfin swk slds qc qf = some (c, f) ∧ rowC c f (zcuts (zS3 N L go B) Ls) := by
  have hB := hb.2.1
  unfold fX4_cutByLetters
  have h := cuts_loop (N := N) (f := fX4_cutByLetters_s2 (nI L) bc bf (nI N) sfin swk slds) ((List.range L).map (fun c => B.map (fun x => zmk (fun i => bt x (go c i)) N))) 0 (by rw [List.length_map, List.length_range]; omega) ?_ ?_ hq hok
  · obtain ⟨c, g, e, hr⟩ := h
    exact ⟨c, g, ob2_of e rfl, hr⟩
  · intro k S hS c g Lc h1 h2
    have hk : k < L := by
      have := (List.getElem?_eq_some_iff.mp hS).1
      rw [List.length_map, List.length_range] at this
      exact this
    rw [List.getElem?_map, List.getElem?_range hk] at hS
    simp only [Option.map_some, Option.some.injEq] at hS
    subst hS
    have hin := cut_loop (N := N) hN (f := fX4_cutByLetters_s13 bc bf (nI k) (nI N) (nI L) sfin swk slds) (B.map (fun x => zmk (fun i => bt x (go k i)) N)) 0 (by rw [List.length_map]; omega) ?_ ?_ h1 h2
    · obtain ⟨c2, g2, e, h3⟩ := hin
      refine ⟨c2, g2, ?_, h3⟩
      rw [Nat.zero_add]
      unfold fX4_cutByLetters_s2 fX4_cutByLetters_b2
      dsimp only
      rw [if_neg (by rw [zle (by omega) (by omega)]; omega)]
      refine ob2_of e ?_
      rw [nI_1]
    · intro j s hs c g
      rw [List.getElem?_map] at hs
      cases hx : B[j]? with
      | none => rw [hx] at hs; cases hs
      | some x =>
        rw [hx] at hs
        simp only [Option.map_some, Option.some.injEq] at hs
        subst hs
        have hj : j < B.length := (List.getElem?_eq_some_iff.mp hx).1
        rw [Nat.zero_add]
        unfold fX4_cutByLetters_s13 fX4_cutByLetters_b13
        dsimp only
        rw [if_neg (by rw [hb.1, zle (by omega) (by omega)]; omega), setAt_in hb hx, ob1_some, goX_ok hN hk hL sfin swk (go := go k) (fun i hi => hgo k i hk hi), ob1_some, nI_1]
    · intro c g
      rw [List.length_map, Nat.zero_add]
      unfold fX4_cutByLetters_s13 fX4_cutByLetters_b13
      dsimp only
      rw [if_pos (by rw [hb.1, zle (by omega) (by omega)]; omega)]
  · intro c g
    rw [List.length_map, List.length_range, Nat.zero_add]
    unfold fX4_cutByLetters_s2 fX4_cutByLetters_b2
    dsimp only
    rw [if_pos (by rw [zle (by omega) (by omega)]; omega)]
theorem cutNear_ok {N : Nat} (hN : N ≤ 12) (sl sfin swk : Int32) {near : zF} (hn : ∀ i, i < N → zsub 12 (near i)) {bc : Int32} {bf : zF} {B : List Int32} (hb : rowC bc bf B) (hokB : zok N B) {qc : Int32} {qf : zF} {Ls : List Int32} (hq : rowC qc qf Ls) (hok : zok N Ls) : ∃ c f, fX4_cutByNearCounts bc bf (nI N) sl sfin swk near qc qf = some (c, f) ∧ rowC c f (zcuts (zS4 N near B) Ls) := by
  have hB := hb.2.1
  unfold fX4_cutByNearCounts
  have h := cuts_loop (N := N) (f := fX4_cutByNearCounts_s2 bc bf (nI N) sl sfin swk near) (B.map (fun x => (List.range (zcnt x)).map (fun a => zmk (fun i => decide (a + 1 ≤ zcnt (near i &&& x))) N))) 0 (by rw [List.length_map]; omega) ?_ ?_ hq hok
  · obtain ⟨c, g, e, hr⟩ := h
    exact ⟨c, g, ob2_of e rfl, hr⟩
  · intro k S hS c g Lc h1 h2
    rw [List.getElem?_map] at hS
    cases hx : B[k]? with
    | none => rw [hx] at hS; cases hS
    | some x =>
      rw [hx] at hS
      simp only [Option.map_some, Option.some.injEq] at hS
      subst hS
      have hk : k < B.length := (List.getElem?_eq_some_iff.mp hx).1
      have hxs := zok_sub hokB hN (List.mem_of_getElem? hx)
      have hc12 := zcnt_le x
      have hin := cut_loop (N := N) hN (f := fX4_cutByNearCounts_s33 (nI (zcnt x)) x (nI N) sl sfin swk near) ((List.range (zcnt x)).map (fun a => zmk (fun i => decide (a + 1 ≤ zcnt (near i &&& x))) N)) 1 (by rw [List.length_map, List.length_range]; omega) ?_ ?_ h1 h2
      · obtain ⟨c2, g2, e, h3⟩ := hin
        refine ⟨c2, g2, ?_, h3⟩
        rw [Nat.zero_add]
        unfold fX4_cutByNearCounts_s2 fX4_cutByNearCounts_b2
        dsimp only
        rw [if_neg (by rw [hb.1, zle (by omega) (by omega)]; omega), setAt_in hb hx, ob1_some, bitCount_ok hxs, ob1_some]
        refine ob2_of e ?_
        rw [nI_1]
      · intro a s hs c g
        have ha : a < zcnt x := by
          have := (List.getElem?_eq_some_iff.mp hs).1
          rw [List.length_map, List.length_range] at this
          exact this
        rw [List.getElem?_map, List.getElem?_range ha] at hs
        simp only [Option.map_some, Option.some.injEq] at hs
        subst hs
        unfold fX4_cutByNearCounts_s33 fX4_cutByNearCounts_b33
        dsimp only
        rw [if_neg (by rw [zlt (by omega) (by omega)]; omega), nearX_ok hN sl sfin swk hn, ob1_some, nI_1]
        have e : zmk (fun i => decide (¬ nI (zcnt (near i &&& x)) < nI (1 + a))) N = zmk (fun i => decide (a + 1 ≤ zcnt (near i &&& x))) N := by
          refine zmk_congr N (fun i hi => ?_)
          have h12 := zcnt_le (near i &&& x)
          apply decide_eq_decide.mpr
          rw [zlt (by omega) (by omega)]
          omega
        rw [e]
      · intro c g
        rw [List.length_map, List.length_range]
        unfold fX4_cutByNearCounts_s33 fX4_cutByNearCounts_b33
        dsimp only
        rw [if_pos (by rw [zlt (by omega) (by omega)]; omega)]
  · intro c g
    rw [List.length_map, Nat.zero_add]
    unfold fX4_cutByNearCounts_s2 fX4_cutByNearCounts_b2
    dsimp only
    rw [if_pos (by rw [hb.1, zle (by omega) (by omega)]; omega)]
/-- the sets of refined by a kind 0, 1, 2 -/
def zSk (N : Nat) (cols near : zF) (p : Int32) : List Int32 := if p = 2 then (List.range 8).map (fun x => zmk (fun i => bt (cols i) x) N) else (List.range N).map (fun x => if p = 0 then near x else near x ||| (1 : Int32) <<< (nI x &&& 31))
theorem cutAll_ok {N : Nat} (hN : N ≤ 12) {p : Int32} (hp : p = 0 ∨ p = 1 ∨ p = 2) (sl sfin swk : Int32) (cols near lds : zF) {qc : Int32} {qf : zF} {Ls : List Int32} (hq : rowC qc qf Ls) (hok : zok N Ls) : ∃ c f, fX4_cutByAll p (nI N) sl sfin swk cols near lds qc qf = some (c, f) ∧ rowC c f (zcuts (zSk N cols near p) Ls) := by
  unfold fX4_cutByAll zSk
  by_cases h2 : p = 2
  · subst h2
    rw [if_pos rfl, if_pos rfl, ob1_some]
    have h := cut_loop (N := N) hN (f := fX4_cutByAll_s19 8 2 (nI N) sl sfin swk cols near lds) ((List.range 8).map (fun x => zmk (fun i => bt (cols i) x) N)) 0 (by rw [List.length_map, List.length_range]; omega) ?_ ?_ hq hok
    · obtain ⟨c, g, e, hr⟩ := h
      exact ⟨c, g, ob2_of e rfl, hr⟩
    · intro k s hs c g
      have hk : k < 8 := by
        have := (List.getElem?_eq_some_iff.mp hs).1
        rw [List.length_map, List.length_range] at this
        exact this
      rw [List.getElem?_map, List.getElem?_range hk] at hs
      simp only [Option.map_some, Option.some.injEq] at hs
      subst hs
      rw [Nat.zero_add]
      unfold fX4_cutByAll_s19 fX4_cutByAll_b19 fX6_setOfKind
      dsimp only
      rw [if_neg (by rw [show (8 : Int32) = nI 8 from rfl, zle (by omega) (by omega)]; omega), if_neg (by decide), if_neg (by decide), if_pos rfl, columnX_ok hN (by omega)]
      simp only [ob1_some]
      rw [nI_1]
    · intro c g
      rw [List.length_map, List.length_range]
      rfl
  · rw [if_neg h2, if_neg h2, ob1_some]
    have h := cut_loop (N := N) hN (f := fX4_cutByAll_s19 (nI N) p (nI N) sl sfin swk cols near lds) ((List.range N).map (fun x => if p = 0 then near x else near x ||| (1 : Int32) <<< (nI x &&& 31))) 0 (by rw [List.length_map, List.length_range]; omega) ?_ ?_ hq hok
    · obtain ⟨c, g, e, hr⟩ := h
      exact ⟨c, g, ob2_of e rfl, hr⟩
    · intro k s hs c g
      have hk : k < N := by
        have := (List.getElem?_eq_some_iff.mp hs).1
        rw [List.length_map, List.length_range] at this
        exact this
      rw [List.getElem?_map, List.getElem?_range hk] at hs
      simp only [Option.map_some, Option.some.injEq] at hs
      subst hs
      rw [Nat.zero_add]
      unfold fX4_cutByAll_s19 fX4_cutByAll_b19 fX6_setOfKind
      dsimp only
      rw [if_neg (by rw [zle (by omega) (by omega)]; omega), hasItem_in hk hN]
      simp only [ob1_some, if_neg n10]
      rw [ogd_ok (by omega) (by omega), zcl (by omega), nI_1]
      by_cases h0 : p = 0
      · rw [if_pos h0, if_pos h0, ob1_some]
      · have h1 : p = 1 := by
          rcases hp with h | h | h
          · exact absurd h h0
          · exact h
          · exact absurd h h2
        rw [if_neg h0, if_neg h0, if_pos h1, ogd_ok (by omega) (by omega), ob1_some]
    · intro c g
      rw [List.length_map, List.length_range, Nat.zero_add]
      unfold fX4_cutByAll_s19 fX4_cutByAll_b19
      dsimp only
      rw [if_pos (by rw [zle (by omega) (by omega)]; omega)]
theorem zfix_s (S : List Int32 → List Int32) (n : Nat) (Ls : List Int32) : zfix S (n + 1) Ls = if (zcuts (S Ls) Ls).length = Ls.length then Ls else zfix S n (zcuts (S Ls) Ls) := rfl
theorem settle_ok {N : Nat} (hN : N ≤ 12) {p3 sn sl sfin swk : Int32} {scols snear slds : zF} (S : List Int32 → List Int32) (hcut : ∀ bc bf qc qf Lc, rowC bc bf Lc → rowC qc qf Lc → zok N Lc → ∃ c g, (if p3 = (0 : Int32) then (ob2 (fX4_cutByNearCounts bc bf sn sl sfin swk snear qc qf) (fun a b => (some (a, b)))) else (ob2 (fX4_cutByLetters bc bf sn sl sfin swk slds qc qf) (fun a b => (some (a, b))))) = some (c, g) ∧ rowC c g (zcuts (S Lc) Lc)) {qc : Int32} {qf : zF} {Ls : List Int32} (hq : rowC qc qf Ls) (hok : zok N Ls) (bc : Int32) (bf : zF) : ∃ b1 b2 c f L2, fX4_settle p3 bc bf sn sl sfin swk scols snear slds qc qf = some (b1, b2, c, f) ∧ rowC c f L2 ∧ L2.Perm (zfix S 12 Ls) ∧ zsorted L2 := by
  unfold fX4_settle
  have key := olp_gen (f := fX4_settle_s3 p3 sn sl sfin swk snear slds) (fun (r : Int32 × zF × Int32 × zF) => ∃ L2, rowC r.2.2.1 r.2.2.2 L2 ∧ L2.Perm (zfix S 12 Ls) ∧ zsorted L2) (fun r s => ∃ bc bf qc qf Lr, s = (nI r, bc, bf, qc, qf) ∧ rowC qc qf Lr ∧ zok N Lr ∧ zfix S (12 - r) Lr = zfix S 12 Ls) 12 ?_ ?_ oFu 0 ((0 : Int32), bc, bf, qc, qf) (Nat.zero_le _) (oFu_big (by omega)) ⟨bc, bf, qc, qf, Ls, rfl, hq, hok, rfl⟩
  · obtain ⟨⟨b1, b2, c, f⟩, e, L2, h1, h2, h3⟩ := key
    exact ⟨b1, b2, c, f, L2, e, h1, h2, h3⟩
  · rintro r s hr ⟨bc, bf, qc, qf, Lr, rfl, h1, h2, h3⟩
    obtain ⟨m, hm⟩ : ∃ m, 12 - r = m + 1 := ⟨11 - r, by omega⟩
    rw [hm, zfix_s S m Lr] at h3
    obtain ⟨b1, b2, eb, hb⟩ := copy_ok h1 bc bf
    obtain ⟨c, g, ec, hc⟩ := hcut b1 b2 qc qf Lr hb h1 h2
    have hl1 := hb.2.1
    have hl2 := hc.2.1
    unfold fX4_settle_s3 fX4_settle_b3
    dsimp only
    rw [if_neg (by rw [show (12 : Int32) = nI 12 from rfl, zle (by omega) (by omega)]; omega), eb, ob2_some, ec, ob2_some]
    by_cases he : (zcuts (S Lr) Lr).length = Lr.length
    · right
      rw [if_pos he] at h3
      have hz : zcuts (S Lr) Lr = Lr := by
        rcases zcuts_len (S Lr) h2 with e | ⟨hl, -⟩
        · exact e
        · omega
      rw [hz] at hc
      obtain ⟨f2, L2, e2, h4, h5, h6⟩ := sort_ok hN hc h2
      rw [if_pos (by rw [hc.1, hb.1]), e2, ob1_some]
      refine ⟨_, rfl, L2, h4, ?_, h6⟩
      rw [← h3]
      exact h5
    · left
      rw [if_neg he] at h3
      rw [if_neg (by rw [hc.1, hb.1, zeq (by omega) (by omega)]; exact he)]
      refine ⟨_, rfl, b1, b2, c, g, _, by rw [nI_1], hc, zcuts_ok _ h2, ?_⟩
      rw [show 12 - (r + 1) = m by omega]
      exact h3
  · rintro s ⟨bc, bf, qc, qf, Lr, rfl, h1, h2, h3⟩
    have h3 : Lr = zfix S 12 Ls := h3
    obtain ⟨f2, L2, e2, h4, h5, h6⟩ := sort_ok hN h1 h2
    unfold fX4_settle_s3 fX4_settle_b3
    dsimp only
    rw [if_pos (show (12 : Int32) ≤ nI 12 by decide), e2, ob1_some]
    refine ⟨_, rfl, L2, h4, ?_, h6⟩
    rw [← h3]
    exact h5
/-- a row of classes, refined by a kind -/
def zRef (N L : Nat) (go : Nat → Nat → Nat) (sfin : Int32) (cols near : zF) (p : Int32) (Ls L2 : List Int32) : Prop := ((p = 0 ∨ p = 1 ∨ p = 2) ∧ L2 = zcuts (zSk N cols near p) Ls) ∨ (p = 3 ∧ L2.Perm (zfix (zS3 N L go) 12 (zspl sfin Ls)) ∧ zsorted L2) ∨ (p = 4 ∧ L2.Perm (zfix (zS4 N near) 12 Ls) ∧ zsorted L2)
theorem zpos_perm {A B : List Int32} (hp : A.Perm B) {i : Nat} (h : zpos B i ≠ none) : zpos A i ≠ none := by
  intro hA
  apply h
  rw [zpos_none] at hA ⊢
  intro j hj
  have hx : B[j]? = some (B.getD j 0) := by rw [List.getD_eq_getElem?_getD, List.getElem?_eq_getElem hj]; rfl
  have hm := hp.mem_iff.mpr (List.mem_of_getElem? hx)
  obtain ⟨q, hq⟩ := List.getElem?_of_mem hm
  have := hA q (List.getElem?_eq_some_iff.mp hq).1
  rw [List.getD_eq_getElem?_getD, hq] at this
  exact this
theorem zRef_ok {N L : Nat} {go : Nat → Nat → Nat} {sfin : Int32} {cols near : zF} {p : Int32} {Ls L2 : List Int32} (h : zRef N L go sfin cols near p Ls L2) (hok : zok N Ls) (hcov : ∀ i, i < N → zpos Ls i ≠ none) : zok N L2 ∧ ∀ i, i < N → zpos L2 i ≠ none := by
  rcases h with ⟨-, rfl⟩ | ⟨-, hp, -⟩ | ⟨-, hp, -⟩
  · exact ⟨zcuts_ok _ hok, fun i hi q => hcov i hi ((zcuts_none _ hok).mp q)⟩
  · obtain ⟨h1, h2⟩ := zfix_ok (zS3 N L go) 12 (zspl_ok (s := sfin) hok) (fun i hi q => hcov i hi ((zspl_none hok).mp q))
    exact ⟨zok_perm hp.symm h1, fun i hi => zpos_perm hp (h2 i hi)⟩
  · obtain ⟨h1, h2⟩ := zfix_ok (zS4 N near) 12 hok hcov
    exact ⟨zok_perm hp.symm h1, fun i hi => zpos_perm hp (h2 i hi)⟩
theorem refX_ok {N L : Nat} (hN : N ≤ 12) (hL : L ≤ 3) {p : Int32} (hp : p = 0 ∨ p = 1 ∨ p = 2 ∨ p = 3 ∨ p = 4) (sfin swk : Int32) (cols : zF) {near lds : zF} {go : Nat → Nat → Nat} (hn : ∀ i, i < N → zsub 12 (near i)) (hgo : ∀ c i, c < L → i < N → go c i < N ∧ lds (c * 12 + i) = nI (go c i)) {qc : Int32} {qf : zF} {Ls : List Int32} (hq : rowC qc qf Ls) (hok : zok N Ls) (bc : Int32) (bf : zF) : ∃ b1 b2 c f L2, fX4_refineRow p bc bf (nI N) (nI L) sfin swk cols near lds qc qf = some (b1, b2, c, f) ∧ rowC c f L2 ∧ zRef N L go sfin cols near p Ls L2 := by
  unfold fX4_refineRow
  by_cases h3 : p = 3
  · rw [if_pos h3]
    obtain ⟨c1, f1, e1, hr1⟩ := cut_ok hN hq hok sfin
    obtain ⟨b1, b2, c, f, L2, e2, h4, h5, h6⟩ := settle_ok hN (p3 := 1) (sn := nI N) (sl := nI L) (sfin := sfin) (swk := swk) (scols := cols) (snear := near) (slds := lds) (zS3 N L go) (fun bc bf qc qf Lc a1 a2 a3 => by
      obtain ⟨c, g, e, hr⟩ := cutLetters_ok hN hL sfin swk hgo a1 a2 a3
      refine ⟨c, g, ?_, hr⟩
      rw [if_neg (by decide), e]
      rfl) hr1 (zspl_ok hok) bc bf
    refine ⟨b1, b2, c, f, L2, ?_, h4, Or.inr (Or.inl ⟨h3, h5, h6⟩)⟩
    rw [e1, ob2_some, e2]
    rfl
  rw [if_neg h3]
  by_cases h4 : p = 4
  · rw [if_pos h4]
    obtain ⟨b1, b2, c, f, L2, e2, h5, h6, h7⟩ := settle_ok hN (p3 := 0) (sn := nI N) (sl := nI L) (sfin := sfin) (swk := swk) (scols := cols) (snear := near) (slds := lds) (zS4 N near) (fun bc bf qc qf Lc a1 a2 a3 => by
      obtain ⟨c, g, e, hr⟩ := cutNear_ok hN (nI L) sfin swk hn a1 a3 a2 a3
      refine ⟨c, g, ?_, hr⟩
      rw [if_pos rfl, e]
      rfl) hq hok bc bf
    refine ⟨b1, b2, c, f, L2, ?_, h5, Or.inr (Or.inr ⟨h4, h6, h7⟩)⟩
    rw [e2]
    rfl
  · rw [if_neg h4]
    have hp : p = 0 ∨ p = 1 ∨ p = 2 := by
      rcases hp with h | h | h | h | h
      · exact Or.inl h
      · exact Or.inr (Or.inl h)
      · exact Or.inr (Or.inr h)
      · exact absurd h h3
      · exact absurd h h4
    obtain ⟨c, f, e, hr⟩ := cutAll_ok hN hp (nI L) sfin swk cols near lds hq hok
    refine ⟨bc, bf, c, f, _, ?_, hr, Or.inl ⟨hp, rfl⟩⟩
    rw [e]
    rfl
