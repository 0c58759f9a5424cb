/-! ===== rows cut by many sets; when nothing more is told apart ===== -/
def zsame (Ls : List Int32) (i j : Nat) : Prop := ∃ x ∈ Ls, bt x i = true ∧ bt x j = true
theorem zcut_iff {s x y : Int32} : y ∈ zcut s x ↔ (y = x &&& s ∧ ¬ y = 0) ∨ (y = x &&& (s ^^^ (-1)) ∧ ¬ y = 0) := by
  unfold zcut
  rw [List.mem_append]
  by_cases h1 : x &&& s = 0
  · by_cases h2 : x &&& (s ^^^ (-1)) = 0
    · rw [if_pos h1, if_pos h2]
      constructor
      · intro h; rcases h with h | h <;> simp at h
      · rintro (⟨rfl, h⟩ | ⟨rfl, h⟩)
        · exact absurd h1 h
        · exact absurd h2 h
    · rw [if_pos h1, if_neg h2]
      constructor
      · intro h
        rcases h with h | h
        · simp at h
        · rw [List.mem_singleton] at h
          subst h
          exact Or.inr ⟨rfl, h2⟩
      · rintro (⟨rfl, h⟩ | ⟨rfl, h⟩)
        · exact absurd h1 h
        · exact Or.inr (List.mem_singleton.mpr rfl)
  · by_cases h2 : x &&& (s ^^^ (-1)) = 0
    · rw [if_neg h1, if_pos h2]
      constructor
      · intro h
        rcases h with h | h
        · rw [List.mem_singleton] at h
          subst h
          exact Or.inl ⟨rfl, h1⟩
        · simp at h
      · rintro (⟨rfl, h⟩ | ⟨rfl, h⟩)
        · exact Or.inl (List.mem_singleton.mpr rfl)
        · exact absurd h2 h
    · rw [if_neg h1, if_neg h2]
      constructor
      · intro h
        rcases h with h | h
        · rw [List.mem_singleton] at h
          subst h
          exact Or.inl ⟨rfl, h1⟩
        · rw [List.mem_singleton] at h
          subst h
          exact Or.inr ⟨rfl, h2⟩
      · rintro (⟨rfl, h⟩ | ⟨rfl, h⟩)
        · exact Or.inl (List.mem_singleton.mpr rfl)
        · exact Or.inr (List.mem_singleton.mpr rfl)
theorem zsame_spl {s : Int32} {Ls : List Int32} {i j : Nat} (hi : i < 32) (hj : j < 32) : zsame (zspl s Ls) i j ↔ zsame Ls i j ∧ bt s i = bt s j := by
  constructor
  · rintro ⟨y, hy, h1, h2⟩
    unfold zspl at hy
    rw [List.mem_flatMap] at hy
    obtain ⟨x, hx, hy⟩ := hy
    rcases zcut_iff.mp hy with ⟨rfl, -⟩ | ⟨rfl, -⟩
    · rw [b_and] at h1 h2
      simp at h1 h2
      exact ⟨⟨x, hx, h1.1, h2.1⟩, by rw [h1.2, h2.2]⟩
    · rw [b_and, zb_not _ hi] at h1
      rw [b_and, zb_not _ hj] at h2
      simp at h1 h2
      exact ⟨⟨x, hx, h1.1, h2.1⟩, by rw [h1.2, h2.2]⟩
  · rintro ⟨⟨x, hx, h1, h2⟩, he⟩
    cases hs : bt s i with
    | true =>
      have hs2 : bt s j = true := by rw [← he, hs]
      have hb : bt (x &&& s) i = true := by rw [b_and, h1, hs]; rfl
      refine ⟨x &&& s, ?_, hb, by rw [b_and, h2, hs2]; rfl⟩
      unfold zspl
      rw [List.mem_flatMap]
      exact ⟨x, hx, zcut_iff.mpr (Or.inl ⟨rfl, zb_nz.mpr ⟨i, hi, hb⟩⟩)⟩
    | false =>
      have hs2 : bt s j = false := by rw [← he, hs]
      have hb : bt (x &&& (s ^^^ (-1))) i = true := by rw [b_and, zb_not _ hi, h1, hs]; rfl
      refine ⟨x &&& (s ^^^ (-1)), ?_, hb, by rw [b_and, zb_not _ hj, h2, hs2]; rfl⟩
      unfold zspl
      rw [List.mem_flatMap]
      exact ⟨x, hx, zcut_iff.mpr (Or.inr ⟨rfl, zb_nz.mpr ⟨i, hi, hb⟩⟩)⟩
def zcuts (S : List Int32) (Ls : List Int32) : List Int32 := S.foldl (fun l s => zspl s l) Ls
theorem zcuts_app (A B Ls : List Int32) : zcuts (A ++ B) Ls = zcuts B (zcuts A Ls) := List.foldl_append
theorem zcuts_one (s : Int32) (Ls : List Int32) : zcuts [s] Ls = zspl s Ls := rfl
theorem zcuts_ok {N : Nat} : ∀ (S : List Int32) {Ls : List Int32}, zok N Ls → zok N (zcuts S Ls)
  | [], _, h => h
  | s :: S, _, h => zcuts_ok S (zspl_ok h)
theorem zcuts_none {N : Nat} {j : Nat} : ∀ (S : List Int32) {Ls : List Int32}, zok N Ls → (zpos (zcuts S Ls) j = none ↔ zpos Ls j = none)
  | [], _, h => Iff.rfl
  | s :: S, Ls, h => (zcuts_none S (zspl_ok h)).trans (zspl_none h)
theorem zsame_cuts {i j : Nat} (hi : i < 32) (hj : j < 32) : ∀ (S : List Int32) {Ls : List Int32}, zsame (zcuts S Ls) i j ↔ zsame Ls i j ∧ ∀ s ∈ S, bt s i = bt s j
  | [], Ls => by simp [zcuts]
  | s :: S, Ls => by
    have h1 : zcuts (s :: S) Ls = zcuts S (zspl s Ls) := rfl
    rw [h1, zsame_cuts hi hj S, zsame_spl hi hj]
    constructor
    · rintro ⟨⟨a, b⟩, c⟩
      refine ⟨a, fun t ht => ?_⟩
      rcases List.mem_cons.mp ht with rfl | ht
      · exact b
      · exact c t ht
    · rintro ⟨a, b⟩
      exact ⟨⟨a, b s (by simp)⟩, fun t ht => b t (by simp [ht])⟩
theorem zspl_len {s : Int32} : ∀ {Ls : List Int32}, (∀ x ∈ Ls, ¬ x = 0) → zspl s Ls = Ls ∨ (Ls.length < (zspl s Ls).length ∧ ∃ i j, i < 32 ∧ j < 32 ∧ zsame Ls i j ∧ bt s i ≠ bt s j)
  | [], _ => Or.inl rfl
  | x :: xs, h => by
    have hx := h x (by simp)
    have ih := zspl_len (s := s) (Ls := xs) (fun y hy => h y (by simp [hy]))
    have hone : zcut s x = [x] → (zspl s (x :: xs) = x :: xs ∨ ((x :: xs).length < (zspl s (x :: xs)).length ∧ ∃ i j, i < 32 ∧ j < 32 ∧ zsame (x :: xs) i j ∧ bt s i ≠ bt s j)) := by
      intro he
      rw [zspl_cons, he]
      rcases ih with e | ⟨hl, i, j, hi, hj, ⟨y, hy, hs⟩, hb⟩
      · left
        rw [e]
        rfl
      · right
        refine ⟨by simp; exact hl, i, j, hi, hj, ⟨y, by simp [hy], hs⟩, hb⟩
    by_cases h1 : x &&& s = 0
    · exact hone (zcut_in hx h1)
    · by_cases h2 : x &&& (s ^^^ (-1)) = 0
      · exact hone (zcut_out hx h2)
      · right
        rw [zspl_cons, zcut_two h1 h2]
        obtain ⟨i, hi, hbi⟩ := zb_nz.mp h1
        obtain ⟨j, hj, hbj⟩ := zb_nz.mp h2
        rw [b_and] at hbi
        rw [b_and, zb_not _ hj] at hbj
        simp at hbi hbj
        refine ⟨?_, i, j, hi, hj, ⟨x, by simp, hbi.1, hbj.1⟩, by rw [hbi.2, hbj.2]; simp⟩
        have : xs.length ≤ (zspl s xs).length := by
          rcases ih with e | ⟨hl, -⟩
          · rw [e]; exact Nat.le_refl _
          · omega
        simp
        omega
theorem zcuts_len {N : Nat} : ∀ (S : List Int32) {Ls : List Int32}, zok N Ls → zcuts S Ls = Ls ∨ (Ls.length < (zcuts S Ls).length ∧ ∃ i j, i < 32 ∧ j < 32 ∧ zsame Ls i j ∧ ¬ zsame (zcuts S Ls) i j)
  | [], _, _ => Or.inl rfl
  | s :: S, Ls, h => by
    have h1 : zcuts (s :: S) Ls = zcuts S (zspl s Ls) := rfl
    rw [h1]
    have ih := zcuts_len S (zspl_ok (s := s) h)
    rcases zspl_len (s := s) (fun x hx => (h.1 x hx).1) with e | ⟨hl, i, j, hi, hj, hs, hb⟩
    · rw [e] at ih ⊢
      exact ih
    · right
      refine ⟨?_, i, j, hi, hj, hs, ?_⟩
      · rcases ih with e | ⟨hl2, -⟩
        · rw [e]; exact hl
        · omega
      · rw [zsame_cuts hi hj, zsame_spl hi hj]
        rintro ⟨⟨-, h2⟩, -⟩
        exact hb h2
theorem zsame_pos {N : Nat} {Ls : List Int32} (hok : zok N Ls) {i j : Nat} (hi : i < 32) (hj : j < 32) (hc : zpos Ls i ≠ none) : zsame Ls i j ↔ zpos Ls i = zpos Ls j := by
  constructor
  · rintro ⟨x, hx, h1, h2⟩
    obtain ⟨k, hk⟩ := List.getElem?_of_mem hx
    rw [zpos_of hok hi hk h1, zpos_of hok hj hk h2]
  · intro he
    cases hz : zpos Ls i with
    | none => exact absurd hz hc
    | some k =>
      have hkl := zpos_lt hz
      have hx : Ls[k]? = some Ls[k] := List.getElem?_eq_getElem hkl
      exact ⟨Ls[k], List.getElem_mem hkl, zpos_bt hz hx, zpos_bt (by rw [← he]; exact hz) hx⟩
theorem zsame_refl {N : Nat} {Ls : List Int32} (hok : zok N Ls) {i : Nat} (hi : i < 32) (hc : zpos Ls i ≠ none) : zsame Ls i i := (zsame_pos hok hi hi hc).mpr rfl
theorem zsame_symm {Ls : List Int32} {i j : Nat} (h : zsame Ls i j) : zsame Ls j i := by
  obtain ⟨x, hx, h1, h2⟩ := h
  exact ⟨x, hx, h2, h1⟩
theorem zcls {Ls : List Int32} {i : Nat} (hc : zpos Ls i ≠ none) : ∃ x, x ∈ Ls ∧ bt x i = true := by
  cases hz : zpos Ls i with
  | none => exact absurd hz hc
  | some k =>
    have hkl := zpos_lt hz
    exact ⟨Ls[k], List.getElem_mem hkl, zpos_bt hz (List.getElem?_eq_getElem hkl)⟩
theorem zcls_same {N : Nat} {Ls : List Int32} (hok : zok N Ls) {x : Int32} (hx : x ∈ Ls) {i j : Nat} (hi : i < 32) (hj : j < 32) (h1 : bt x i = true) : zsame Ls i j ↔ bt x j = true := by
  constructor
  · rintro ⟨y, hy, h2, h3⟩
    obtain ⟨k, hk⟩ := List.getElem?_of_mem hx
    obtain ⟨m, hm⟩ := List.getElem?_of_mem hy
    have e1 := zpos_of hok hi hk h1
    have e2 := zpos_of hok hi hm h2
    rw [e1] at e2
    cases e2
    rw [hk] at hm
    cases hm
    exact h3
  · intro h2
    exact ⟨x, hx, h1, h2⟩
/-- rounds, until a round adds no class -/
def zfix (S : List Int32 → List Int32) : Nat → List Int32 → List Int32
  | 0, Ls => Ls
  | n + 1, Ls => if (zcuts (S Ls) Ls).length = Ls.length then Ls else zfix S n (zcuts (S Ls) Ls)
theorem zfix_ok {N : Nat} (S : List Int32 → List Int32) : ∀ (n : Nat) {Ls : List Int32}, zok N Ls → (∀ i, i < N → zpos Ls i ≠ none) → zok N (zfix S n Ls) ∧ ∀ i, i < N → zpos (zfix S n Ls) i ≠ none
  | 0, _, h, hc => ⟨h, hc⟩
  | n + 1, Ls, h, hc => by
    rw [zfix]
    by_cases he : (zcuts (S Ls) Ls).length = Ls.length
    · rw [if_pos he]
      exact ⟨h, hc⟩
    · rw [if_neg he]
      exact zfix_ok S n (zcuts_ok _ h) (fun i hi q => hc i hi ((zcuts_none _ h).mp q))
/-- the sets of one round: by letters -/
def zS3 (N L : Nat) (go : Nat → Nat → Nat) (Ls : List Int32) : List Int32 := (List.range L).flatMap (fun c => Ls.map (fun x => zmk (fun i => bt x (go c i)) N))
/-- the sets of one round: by how many are near -/
def zS4 (N : Nat) (near : zF) (Ls : List Int32) : List Int32 := Ls.flatMap (fun x => (List.range (zcnt x)).map (fun a => zmk (fun i => decide (a + 1 ≤ zcnt (near i &&& x))) N))
theorem zS3_ag {N L : Nat} (hN : N ≤ 12) {go : Nat → Nat → Nat} {Ls : List Int32} (hok : zok N Ls) (hcov : ∀ i, i < N → zpos Ls i ≠ none) (hgo : ∀ c i, c < L → i < N → go c i < N) {i j : Nat} (hi : i < N) (hj : j < N) : (∀ s ∈ zS3 N L go Ls, bt s i = bt s j) ↔ ∀ c, c < L → zsame Ls (go c i) (go c j) := by
  constructor
  · intro h c hc
    obtain ⟨x, hx, hb⟩ := zcls (hcov _ (hgo c i hc hi))
    have := h (zmk (fun i => bt x (go c i)) N) (by
      unfold zS3
      rw [List.mem_flatMap]
      exact ⟨c, List.mem_range.mpr hc, List.mem_map.mpr ⟨x, hx, rfl⟩⟩)
    rw [zb_mk _ _ (by omega) _ (by omega), zb_mk _ _ (by omega) _ (by omega), decide_eq_true hi, decide_eq_true hj, Bool.true_and, Bool.true_and, hb] at this
    exact ⟨x, hx, hb, this.symm⟩
  · intro h s hs
    unfold zS3 at hs
    rw [List.mem_flatMap] at hs
    obtain ⟨c, hc, hs⟩ := hs
    rw [List.mem_range] at hc
    obtain ⟨x, hx, rfl⟩ := List.mem_map.mp hs
    have gi := hgo c i hc hi
    have gj := hgo c j hc hj
    rw [zb_mk _ _ (by omega) _ (by omega), zb_mk _ _ (by omega) _ (by omega), decide_eq_true hi, decide_eq_true hj, Bool.true_and, Bool.true_and]
    cases hb : bt x (go c i) with
    | true => exact ((zcls_same hok hx (by omega) (by omega) hb).mp (h c hc)).symm
    | false =>
      cases hb2 : bt x (go c j) with
      | false => rfl
      | true =>
        have := (zcls_same hok hx (by omega) (by omega) hb2).mp (zsame_symm (h c hc))
        rw [hb] at this
        cases this
theorem zcn_le_and (x y : Int32) : ∀ n, zcn (x &&& y) n ≤ zcn y n
  | 0 => Nat.le_refl 0
  | n + 1 => by
    have := zcn_le_and x y n
    rw [zcn, zcn, b_and]
    cases bt x n <;> cases bt y n <;> simp <;> omega
theorem zS4_ag {N : Nat} (hN : N ≤ 12) {near : zF} {Ls : List Int32} {i j : Nat} (hi : i < N) (hj : j < N) : (∀ s ∈ zS4 N near Ls, bt s i = bt s j) ↔ ∀ x ∈ Ls, zcnt (near i &&& x) = zcnt (near j &&& x) := by
  constructor
  · intro h x hx
    have key : ∀ a, a < zcnt x → (a + 1 ≤ zcnt (near i &&& x) ↔ a + 1 ≤ zcnt (near j &&& x)) := by
      intro a ha
      have := h (zmk (fun i => decide (a + 1 ≤ zcnt (near i &&& x))) N) (by
        unfold zS4
        rw [List.mem_flatMap]
        exact ⟨x, hx, List.mem_map.mpr ⟨a, List.mem_range.mpr ha, rfl⟩⟩)
      rw [zb_mk _ _ (by omega) _ (by omega), zb_mk _ _ (by omega) _ (by omega), decide_eq_true hi, decide_eq_true hj, Bool.true_and, Bool.true_and] at this
      exact decide_eq_decide.mp this
    have hl1 : zcnt (near i &&& x) ≤ zcnt x := zcn_le_and _ _ 12
    have hl2 : zcnt (near j &&& x) ≤ zcnt x := zcn_le_and _ _ 12
    rcases Nat.lt_trichotomy (zcnt (near i &&& x)) (zcnt (near j &&& x)) with h1 | h1 | h1
    · have := (key (zcnt (near i &&& x)) (by omega)).mpr (by omega)
      omega
    · exact h1
    · have := (key (zcnt (near j &&& x)) (by omega)).mp (by omega)
      omega
  · intro h s hs
    unfold zS4 at hs
    rw [List.mem_flatMap] at hs
    obtain ⟨x, hx, hs⟩ := hs
    obtain ⟨a, ha, rfl⟩ := List.mem_map.mp hs
    rw [zb_mk _ _ (by omega) _ (by omega), zb_mk _ _ (by omega) _ (by omega), decide_eq_true hi, decide_eq_true hj, h x hx]
