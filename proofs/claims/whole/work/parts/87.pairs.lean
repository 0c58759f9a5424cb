/-! ===== refined by pairs: the reference's side ===== -/
def zsb (Ls : List Int32) (i j : Nat) : Bool := Ls.any (fun x => bt x i && bt x j)
theorem zsb_iff {Ls : List Int32} {i j : Nat} : zsb Ls i j = true ↔ zsame Ls i j := by
  unfold zsb zsame
  rw [List.any_eq_true]
  constructor
  · rintro ⟨x, hx, h⟩
    rw [Bool.and_eq_true] at h
    exact ⟨x, hx, h.1, h.2⟩
  · rintro ⟨x, hx, h1, h2⟩
    exact ⟨x, hx, by rw [h1, h2]; rfl⟩
theorem zsb_f {Ls : List Int32} {i j : Nat} : zsb Ls i j = false ↔ ¬ zsame Ls i j := by
  rw [← zsb_iff]
  cases zsb Ls i j <;> simp
def z01 (b : Bool) : Int32 := if b = true then 0 else 1
theorem z01_t : z01 true = 0 := rfl
theorem z01_f : z01 false = 1 := rfl
theorem nar01 (b : Bool) : vp_nar .boolean (z01 b) = z01 b := by cases b <;> rfl
theorem z12 (i j : Nat) : ((12 : Int32) * nI i) + nI j = nI (12 * i + j) := by
  have e1 : (12 : Int32) * nI i = nI (12 * i) := pk_mul 12 i
  rw [e1, nI_add]
def zag (N : Nat) (ia : zF) (Ls : List Int32) : Prop := ∀ i j, i < N → j < N → ia (12 * i + j) = z01 (zsb Ls i j)
def zB3 (L : Nat) (go : Nat → Nat → Nat) (Ls : List Int32) (i j : Nat) : Bool := (List.range L).all (fun c => zsb Ls (go c i) (go c j))
theorem more3_ok {N L : Nat} (hN : N ≤ 12) (hL : L ≤ 3) {st : zF} (h1 : st 1 = nI L) {go : Nat → Nat → Nat} (hgo : ∀ c i, c < L → i < N → go c i < N ∧ st (28 + 3 * i + c) = nI (go c i)) {ia : zF} {Ls : List Int32} (hag : zag N ia Ls) {i j : Nat} (hi : i < N) (hj : j < N) (p2 d s e : Int32) : fX9_isOneMore p2 3 (nI i) (nI j) d s e st ia = some (z01 (zB3 L go Ls i j)) := by
  unfold fX9_isOneMore
  rw [if_pos rfl]
  have key := zloop (f := fX9_isOneMore_s11 st (nI i) (nI j) ia) (r := z01 (zB3 L go Ls i j)) L (fun c => z01 ((List.range c).all (fun c => zsb Ls (go c i) (go c j)))) 0 (Nat.zero_le _) (by omega) ?_ ?_
  · refine ob1_of key ?_
    unfold obl
    rw [if_pos]
    cases zB3 L go Ls i j
    · exact Or.inr rfl
    · exact Or.inl rfl
  · intro c _ hc
    obtain ⟨g1, g2⟩ := hgo c i hc hi
    obtain ⟨g3, g4⟩ := hgo c j hc hj
    rw [List.range_succ, List.all_append]
    unfold fX9_isOneMore_s11 fX9_isOneMore_b11
    dsimp only
    rw [h1, if_neg (by rw [zle (by omega) (by omega)]; omega), zgo, zgo, ogd_ok (by omega) (by omega), ogd_ok (by omega) (by omega), zcl (by omega), zcl (by omega), g2, g4, z12, ogd_ok (by omega) (by omega), zcl (by omega), hag _ _ g1 g3, nI_1]
    cases (List.range c).all (fun c => zsb Ls (go c i) (go c j)) <;> cases hz : zsb Ls (go c i) (go c j) <;> simp [z01, hz, n10]
  · unfold fX9_isOneMore_s11 fX9_isOneMore_b11
    dsimp only
    rw [h1, if_pos (by rw [zle (by omega) (by omega)]; omega)]
    rfl
def zcl4 (N : Nat) (Ls : List Int32) (k : Nat) : Int32 := zmk (fun o => zsb Ls k o) N
def zB4 (N : Nat) (near : zF) (Ls : List Int32) (i j : Nat) : Bool := (List.range N).all (fun k => decide (zcnt (near i &&& zcl4 N Ls k) = zcnt (near j &&& zcl4 N Ls k)))
theorem more4_ok {N : Nat} (hN : N ≤ 12) {st near : zF} (h0 : st 0 = nI N) (hn : ∀ i, i < N → st (16 + i) = near i) {ia : zF} {Ls : List Int32} (hag : zag N ia Ls) {i j : Nat} (hi : i < N) (hj : j < N) (p2 d s e : Int32) : fX9_isOneMore p2 4 (nI i) (nI j) d s e st ia = some (z01 (zB4 N near Ls i j)) := by
  have hits : ∀ k, k < N → olp (fX9_isOneMore_s105 st (nI k) ia) oFu ((0 : Int32), (0 : Int32)) = some (zcl4 N Ls k) := by
    intro k hk
    refine zloop N (fun o => zmk (fun o => zsb Ls k o) o) 0 (Nat.zero_le _) (by omega) ?_ ?_
    · intro o _ ho
      unfold fX9_isOneMore_s105 fX9_isOneMore_b105
      dsimp only
      rw [h0, if_neg (by rw [zle (by omega) (by omega)]; omega), z12, ogd_ok (by omega) (by omega), zcl (by omega), hag k o hk ho, nI_1, zmk]
      cases zsb Ls k o
      · rw [if_neg (by decide), if_neg (by decide)]
      · rw [if_pos (by decide), if_pos rfl]
    · unfold fX9_isOneMore_s105 fX9_isOneMore_b105
      dsimp only
      rw [h0, if_pos (by rw [zle (by omega) (by omega)]; omega)]
      rfl
  unfold fX9_isOneMore
  rw [if_neg (by decide)]
  have key := zloop (f := fX9_isOneMore_s88 st ia (nI i) (nI j)) (r := z01 (zB4 N near Ls i j)) N (fun k => z01 ((List.range k).all (fun k => decide (zcnt (near i &&& zcl4 N Ls k) = zcnt (near j &&& zcl4 N Ls k))))) 0 (Nat.zero_le _) (by omega) ?_ ?_
  · refine ob1_of key ?_
    unfold obl
    rw [if_pos]
    cases zB4 N near Ls i j
    · exact Or.inr rfl
    · exact Or.inl rfl
  · intro k _ hk
    have c1 := zcnt_le (near i &&& zcl4 N Ls k)
    have c2 := zcnt_le (near j &&& zcl4 N Ls k)
    rw [List.range_succ, List.all_append]
    unfold fX9_isOneMore_s88 fX9_isOneMore_b88
    dsimp only
    rw [h0, if_neg (by rw [zle (by omega) (by omega)]; omega), hits k hk, ob1_some, za16, za16, ogd_ok (by omega) (by omega), zcl (by omega), sizeOf_ok, ob1_some, ogd_ok (by omega) (by omega), zcl (by omega), sizeOf_ok, ob1_some, hn i hi, hn j hj, nI_1]
    cases (List.range k).all (fun k => decide (zcnt (near i &&& zcl4 N Ls k) = zcnt (near j &&& zcl4 N Ls k)))
    · simp [z01, n10]
    · by_cases hz : zcnt (near i &&& zcl4 N Ls k) = zcnt (near j &&& zcl4 N Ls k)
      · simp [z01, hz]
      · have hz2 : ¬ nI (zcnt (near i &&& zcl4 N Ls k)) = nI (zcnt (near j &&& zcl4 N Ls k)) := by
          rw [zeq (by omega) (by omega)]
          exact hz
        simp [z01, hz, hz2]
  · unfold fX9_isOneMore_s88 fX9_isOneMore_b88
    dsimp only
    rw [h0, if_pos (by rw [zle (by omega) (by omega)]; omega)]
    rfl
theorem zB3_cut {N L : Nat} (hN : N ≤ 12) {go : Nat → Nat → Nat} (hgo : ∀ c i, c < L → i < N → go c i < N) {Ls : List Int32} (hok : zok N Ls) (hcov : ∀ i, i < N → zpos Ls i ≠ none) {i j : Nat} (hi : i < N) (hj : j < N) : zsb (zcuts (zS3 N L go Ls) Ls) i j = (zsb Ls i j && zB3 L go Ls i j) := by
  rw [Bool.eq_iff_iff, Bool.and_eq_true, zsb_iff, zsb_iff, zsame_cuts (by omega) (by omega), zS3_ag hN hok hcov hgo hi hj]
  unfold zB3
  rw [List.all_eq_true]
  constructor
  · rintro ⟨a, b⟩
    exact ⟨a, fun c hc => zsb_iff.mpr (b c (List.mem_range.mp hc))⟩
  · rintro ⟨a, b⟩
    exact ⟨a, fun c hc => zsb_iff.mp (b c (List.mem_range.mpr hc))⟩
theorem zcl4_mem {N : Nat} (hN : N ≤ 12) {Ls : List Int32} (hok : zok N Ls) {x : Int32} (hx : x ∈ Ls) {k : Nat} (hk : k < 32) (hb : bt x k = true) : zcl4 N Ls k = x := by
  apply b_ext
  intro o ho
  unfold zcl4
  rw [zb_mk _ N (by omega) o ho]
  have h1 := zcls_same hok hx hk ho hb
  cases hxo : bt x o with
  | true =>
    have hoN := (hok.1 x hx).2 o ho hxo
    rw [decide_eq_true hoN, zsb_iff.mpr (h1.mpr hxo)]
    rfl
  | false =>
    have : zsb Ls k o = false := by
      rw [zsb_f, h1, hxo]
      decide
    rw [this, Bool.and_false]
theorem zB4_cut {N : Nat} (hN : N ≤ 12) {near : zF} {Ls : List Int32} (hok : zok N Ls) (hcov : ∀ i, i < N → zpos Ls i ≠ none) {i j : Nat} (hi : i < N) (hj : j < N) : zsb (zcuts (zS4 N near Ls) Ls) i j = (zsb Ls i j && zB4 N near Ls i j) := by
  rw [Bool.eq_iff_iff, Bool.and_eq_true, zsb_iff, zsb_iff, zsame_cuts (by omega) (by omega), zS4_ag hN hi hj]
  unfold zB4
  rw [List.all_eq_true]
  constructor
  · rintro ⟨a, b⟩
    refine ⟨a, fun k hk => decide_eq_true ?_⟩
    have hkN := List.mem_range.mp hk
    obtain ⟨x, hx, hb⟩ := zcls (hcov k hkN)
    rw [zcl4_mem hN hok hx (by omega) hb]
    exact b x hx
  · rintro ⟨a, b⟩
    refine ⟨a, fun x hx => ?_⟩
    obtain ⟨k, hk, hb⟩ := zb_nz.mp (hok.1 x hx).1
    have hkN := (hok.1 x hx).2 k hk hb
    have := of_decide_eq_true (b k (List.mem_range.mpr hkN))
    rw [zcl4_mem hN hok hx hk hb] at this
    exact this
theorem round_ok {N : Nat} (hN : N ≤ 12) {st : zF} (h0 : st 0 = nI N) {p2 p3 d s e : Int32} {ia : zF} {Ls L2 : List Int32} {B : Nat → Nat → Bool} (hag : zag N ia Ls) (hB : ∀ i j, i < N → j < N → fX9_isOneMore p2 p3 (nI i) (nI j) d s e st ia = some (z01 (B i j))) (hL : ∀ i j, i < N → j < N → zsb L2 i j = (zsb Ls i j && B i j)) (inw : zF) : ∃ b inw2, olp (fX9_tellsApart_s129 st ia p2 p3 d s e) oFu ((0 : Int32), (0 : Int32), inw) = some (z01 b, inw2) ∧ zag N inw2 L2 ∧ (b = true ↔ ∀ i j, i < N → j < N → zsb L2 i j = zsb Ls i j) := by
  have hstep : ∀ i j, i < N → j < N → ∀ (b : Bool) (g : zF), fX9_tellsApart_s143 st (nI i) ia p2 p3 d s e (nI j, z01 b, g) = some (.inl (nI (j + 1), z01 (b && (zsb L2 i j == zsb Ls i j)), upd g (12 * i + j) (z01 (zsb L2 i j)))) := by
    intro i j hi hj b g
    unfold fX9_tellsApart_s143 fX9_tellsApart_b143
    dsimp only
    have hg : ∀ (ρ : Type) (k : Option ρ), ogd (nI (12 * i + j)) 144 k = k := fun ρ k => ogd_ok (by omega) (by omega)
    have hz : (if ia (12 * i + j) = (0 : Int32) then (ob1 (fX9_isOneMore p2 p3 (nI i) (nI j) d s e st ia) (fun r_19 => (if r_19 = (0 : Int32) then (some (0 : Int32)) else (some (1 : Int32))))) else (some (1 : Int32))) = some (z01 (zsb L2 i j)) := by
      rw [hag i j hi hj, hB i j hi hj, ob1_some, hL i j hi hj]
      cases zsb Ls i j <;> cases B i j <;> rfl
    rw [h0, if_neg (by rw [zle (by omega) (by omega)]; omega), z12]
    simp only [hg]
    rw [zcl (by omega), hz, ob1_some, nar01, pk_us, hag i j hi hj, nI_1]
    cases b <;> cases zsb L2 i j <;> cases zsb Ls i j <;> rfl
  have hin : ∀ i, i < N → ∀ (b : Bool) (g : zF), ∃ b2 g2, olp (fX9_tellsApart_s143 st (nI i) ia p2 p3 d s e) oFu ((0 : Int32), z01 b, g) = some (z01 b2, g2) ∧ (∀ q, q < 12 * i → g2 q = g q) ∧ (∀ j, j < N → g2 (12 * i + j) = z01 (zsb L2 i j)) ∧ (b2 = true ↔ b = true ∧ ∀ j, j < N → zsb L2 i j = zsb Ls i j) := by
    intro i hi b g
    have key := olp_gen (f := fX9_tellsApart_s143 st (nI i) ia p2 p3 d s e) (fun (r : Int32 × zF) => ∃ b2, r.1 = z01 b2 ∧ (∀ q, q < 12 * i → r.2 q = g q) ∧ (∀ j, j < N → r.2 (12 * i + j) = z01 (zsb L2 i j)) ∧ (b2 = true ↔ b = true ∧ ∀ j, j < N → zsb L2 i j = zsb Ls i j)) (fun j t => ∃ b2 g2, t = (nI j, z01 b2, g2) ∧ (∀ q, q < 12 * i → g2 q = g q) ∧ (∀ k, k < j → g2 (12 * i + k) = z01 (zsb L2 i k)) ∧ (b2 = true ↔ b = true ∧ ∀ k, k < j → zsb L2 i k = zsb Ls i k)) N ?_ ?_ oFu 0 ((0 : Int32), z01 b, g) (Nat.zero_le _) (oFu_big (by omega)) ⟨b, g, rfl, fun _ _ => rfl, fun k h => absurd h (Nat.not_lt_zero k), ⟨fun h => ⟨h, fun k h => absurd h (Nat.not_lt_zero k)⟩, fun h => h.1⟩⟩
    · obtain ⟨⟨x, g2⟩, e1, b2, hx, h1, h2, h3⟩ := key
      have hx : x = z01 b2 := hx
      subst hx
      exact ⟨b2, g2, e1, h1, h2, h3⟩
    · rintro j t hj ⟨b2, g2, rfl, h1, h2, h3⟩
      left
      refine ⟨_, hstep i j hi hj b2 g2, _, _, rfl, fun q hq => ?_, fun k hk => ?_, ?_⟩
      · rw [pk_un (by omega)]
        exact h1 q hq
      · by_cases hkj : k = j
        · subst hkj
          rw [pk_us]
        · rw [pk_un (by omega)]
          exact h2 k (by omega)
      · rw [Bool.and_eq_true, h3, beq_iff_eq]
        constructor
        · rintro ⟨⟨a, c⟩, h⟩
          refine ⟨a, fun k hk => ?_⟩
          by_cases hkj : k = j
          · subst hkj
            exact h
          · exact c k (by omega)
        · rintro ⟨a, c⟩
          exact ⟨⟨a, fun k hk => c k (by omega)⟩, c j (by omega)⟩
    · rintro t ⟨b2, g2, rfl, h1, h2, h3⟩
      refine ⟨(z01 b2, g2), ?_, b2, rfl, h1, h2, h3⟩
      unfold fX9_tellsApart_s143 fX9_tellsApart_b143
      dsimp only
      rw [h0, if_pos (by rw [zle (by omega) (by omega)]; omega)]
  have key := olp_gen (f := fX9_tellsApart_s129 st ia p2 p3 d s e) (fun (r : Int32 × zF) => ∃ b, r.1 = z01 b ∧ zag N r.2 L2 ∧ (b = true ↔ ∀ i j, i < N → j < N → zsb L2 i j = zsb Ls i j)) (fun i t => ∃ b g, t = (nI i, z01 b, g) ∧ (∀ a j, a < i → j < N → g (12 * a + j) = z01 (zsb L2 a j)) ∧ (b = true ↔ ∀ a j, a < i → j < N → zsb L2 a j = zsb Ls a j)) N ?_ ?_ oFu 0 ((0 : Int32), (0 : Int32), inw) (Nat.zero_le _) (oFu_big (by omega)) ⟨true, inw, rfl, fun a j h => absurd h (Nat.not_lt_zero a), ⟨fun _ a j h => absurd h (Nat.not_lt_zero a), fun _ => rfl⟩⟩
  · obtain ⟨⟨x, g2⟩, e1, b2, hx, h1, h2⟩ := key
    have hx : x = z01 b2 := hx
    subst hx
    exact ⟨b2, g2, e1, h1, h2⟩
  · rintro i t hi ⟨b, g, rfl, h1, h2⟩
    left
    obtain ⟨b2, g2, e1, h3, h4, h5⟩ := hin i hi b g
    refine ⟨(nI (i + 1), z01 b2, g2), ?_, b2, g2, rfl, fun a j ha hj => ?_, ?_⟩
    · unfold fX9_tellsApart_s129 fX9_tellsApart_b129
      dsimp only
      rw [h0, if_neg (by rw [zle (by omega) (by omega)]; omega), e1, ob2_some, nI_1]
    · by_cases hai : a = i
      · subst hai
        exact h4 j hj
      · rw [h3 _ (by omega)]
        exact h1 a j (by omega) hj
    · rw [h5, h2]
      constructor
      · rintro ⟨x, y⟩ a j ha hj
        by_cases hai : a = i
        · subst hai
          exact y j hj
        · exact x a j (by omega) hj
      · intro x
        exact ⟨fun a j ha hj => x a j (by omega) hj, fun j hj => x i j (by omega) hj⟩
  · rintro t ⟨b, g, rfl, h1, h2⟩
    refine ⟨(z01 b, g), ?_, b, rfl, h1, h2⟩
    unfold fX9_tellsApart_s129 fX9_tellsApart_b129
    dsimp only
    rw [h0, if_pos (by rw [zle (by omega) (by omega)]; omega)]
theorem copyB_ok (inw ia : zF) : ∃ ia2, olp (fX9_tellsApart_s258 inw) oFu ((0 : Int32), ia) = some ia2 ∧ ∀ q, q < 144 → ia2 q = vp_nar .boolean (inw q) := by
  refine olp_gen (f := fX9_tellsApart_s258 inw) (fun (r : zF) => ∀ q, q < 144 → r q = vp_nar .boolean (inw q)) (fun k t => ∃ g, t = (nI k, g) ∧ ∀ q, q < k → g q = vp_nar .boolean (inw q)) 144 ?_ ?_ oFu 0 ((0 : Int32), ia) (Nat.zero_le _) (oFu_big (by omega)) ⟨ia, rfl, fun q h => absurd h (Nat.not_lt_zero q)⟩
  · rintro k t hk ⟨g, rfl, h⟩
    left
    refine ⟨(nI (k + 1), upd g k (vp_nar .boolean (inw k))), ?_, _, rfl, fun q hq => ?_⟩
    · unfold fX9_tellsApart_s258 fX9_tellsApart_b258
      dsimp only
      rw [if_neg (by rw [show (144 : Int32) = nI 144 from rfl, zle (by omega) (by omega)]; omega), ogd_ok (by omega) (by omega), ogd_ok (by omega) (by omega), zcl (by omega), nI_1]
    · by_cases hqk : q = k
      · subst hqk
        rw [pk_us]
      · rw [pk_un (by omega)]
        exact h q (by omega)
  · rintro t ⟨g, rfl, h⟩
    refine ⟨g, ?_, h⟩
    unfold fX9_tellsApart_s258 fX9_tellsApart_b258
    dsimp only
    rw [if_pos (by decide)]
theorem tells_loop {N : Nat} (hN1 : 1 ≤ N) (hN : N ≤ 12) {st : zF} (h0 : st 0 = nI N) {p2 p3 d s e : Int32} (S : List Int32 → List Int32) (B : List Int32 → Nat → Nat → Bool) (hB : ∀ Lr ia, zag N ia Lr → ∀ i j, i < N → j < N → fX9_isOneMore p2 p3 (nI i) (nI j) d s e st ia = some (z01 (B Lr i j))) (hS : ∀ Lr, zok N Lr → (∀ i, i < N → zpos Lr i ≠ none) → ∀ i j, i < N → j < N → zsb (zcuts (S Lr) Lr) i j = (zsb Lr i j && B Lr i j)) {L0 : List Int32} (hok : zok N L0) (hcov : ∀ i, i < N → zpos L0 i ≠ none) {ia : zF} (hag : zag N ia L0) (inw : zF) : ∃ ia2 inw2, olp (fX9_tellsApart_s118 st p2 p3 d s e) oFu ((1 : Int32), ia, inw) = some (ia2, inw2) ∧ zag N ia2 (zfix S 12 L0) := by
  have hc1 := zcov_len hN1 hcov
  have key := olp_gen (f := fX9_tellsApart_s118 st p2 p3 d s e) (fun (r : zF × zF) => zag N r.1 (zfix S 12 L0)) (fun r t => ∃ b ia inw Lr, t = (z01 b, ia, inw) ∧ zag N ia Lr ∧ ((b = true ∧ Lr = zfix S 12 L0) ∨ (b = false ∧ zok N Lr ∧ (∀ i, i < N → zpos Lr i ≠ none) ∧ zfix S (12 - r) Lr = zfix S 12 L0 ∧ N < Lr.length + (12 - r)))) 13 ?_ ?_ oFu 0 ((1 : Int32), ia, inw) (Nat.zero_le _) (oFu_big (by omega)) ⟨false, ia, inw, L0, rfl, hag, Or.inr ⟨rfl, hok, hcov, rfl, by omega⟩⟩
  · obtain ⟨⟨ia2, inw2⟩, e1, h⟩ := key
    exact ⟨ia2, inw2, e1, h⟩
  · rintro r t hr ⟨b, ia, inw, Lr, rfl, h1, ⟨rfl, hF⟩ | ⟨rfl, h2, h3, h4, h5⟩⟩
    · right
      refine ⟨(ia, inw), ?_, ?_⟩
      · unfold fX9_tellsApart_s118 fX9_tellsApart_b118
        dsimp only
        rw [if_pos z01_t]
      · rw [← hF]
        exact h1
    · left
      have hlen := zok_len h2
      obtain ⟨m, hm⟩ : ∃ m, 12 - r = m + 1 := ⟨12 - r - 1, by omega⟩
      rw [hm, zfix_s S m Lr] at h4
      obtain ⟨b2, inw2, e1, g1, g2⟩ := round_ok hN h0 h1 (hB Lr ia h1) (hS Lr h2 h3) inw
      obtain ⟨ia2, e2, g3⟩ := copyB_ok inw2 ia
      refine ⟨(z01 b2, ia2, inw2), ?_, b2, ia2, inw2, zcuts (S Lr) Lr, rfl, ?_, ?_⟩
      · unfold fX9_tellsApart_s118 fX9_tellsApart_b118
        dsimp only
        rw [if_neg (show ¬ z01 false = 0 by decide), e1, ob2_some, e2, ob1_some]
      · intro i j hi hj
        rw [g3 _ (by omega), g1 i j hi hj, nar01]
      · cases b2 with
        | true =>
          left
          have hz : zcuts (S Lr) Lr = Lr := by
            rcases zcuts_len (S Lr) h2 with e | ⟨-, i, j, hi, hj, hs1, hs2⟩
            · exact e
            · exfalso
              obtain ⟨x, hx, b1, b2⟩ := hs1
              have hiN := (h2.1 x hx).2 i hi b1
              have hjN := (h2.1 x hx).2 j hj b2
              apply hs2
              rw [← zsb_iff, g2.mp rfl i j hiN hjN, zsb_iff]
              exact ⟨x, hx, b1, b2⟩
          rw [hz, if_pos rfl] at h4
          rw [hz]
          exact ⟨rfl, h4⟩
        | false =>
          right
          have hgt : Lr.length < (zcuts (S Lr) Lr).length := by
            rcases zcuts_len (S Lr) h2 with e | ⟨hl, -⟩
            · have := g2.mpr (fun i j _ _ => by rw [e])
              cases this
            · exact hl
          rw [if_neg (by omega)] at h4
          refine ⟨rfl, zcuts_ok _ h2, fun i hi q => h3 i hi ((zcuts_none _ h2).mp q), ?_, by omega⟩
          rw [show 12 - (r + 1) = m by omega]
          exact h4
  · rintro t ⟨b, ia, inw, Lr, rfl, h1, ⟨rfl, hF⟩ | ⟨rfl, h2, h3, h4, h5⟩⟩
    · refine ⟨(ia, inw), ?_, ?_⟩
      · unfold fX9_tellsApart_s118 fX9_tellsApart_b118
        dsimp only
        rw [if_pos z01_t]
      · rw [← hF]
        exact h1
    · have := zok_len h2
      omega
theorem leastR_ok {N : Nat} (hN1 : 1 ≤ N) (hN : N ≤ 12) {st : zF} (h0 : st 0 = nI N) {F : List Int32} {ia : zF} (hag : zag N ia F) (nr : zF) : ∃ nr2, olp (fX9_tellsApart_s299 st ia) oFu (nI N - 1, nr) = some nr2 ∧ ∀ j i, j < N → i < N → zsb F i j = true → (∀ k, k < i → zsb F k j = false) → nr2 j = nI i := by
  have hin : ∀ q, q < N → ∀ (g : zF), ∃ g2, olp (fX9_tellsApart_s307 st (nI q) ia) oFu ((0 : Int32), g) = some g2 ∧ ∀ j, j < N → g2 j = if zsb F q j = true then nI q else g j := by
    intro q hq g
    refine olp_gen (f := fX9_tellsApart_s307 st (nI q) ia) (fun (r : zF) => ∀ j, j < N → r j = if zsb F q j = true then nI q else g j) (fun k t => ∃ g2, t = (nI k, g2) ∧ (∀ j, j < k → g2 j = if zsb F q j = true then nI q else g j) ∧ (∀ j, k ≤ j → g2 j = g j)) N ?_ ?_ oFu 0 ((0 : Int32), g) (Nat.zero_le _) (oFu_big (by omega)) ⟨g, rfl, fun j h => absurd h (Nat.not_lt_zero j), fun _ _ => rfl⟩
    · rintro k t hk ⟨g2, rfl, h1, h2⟩
      left
      refine ⟨(nI (k + 1), upd g2 k (if zsb F q k = true then nI q else g k)), ?_, _, rfl, fun j hj => ?_, fun j hj => ?_⟩
      · unfold fX9_tellsApart_s307 fX9_tellsApart_b307
        dsimp only
        rw [h0, if_neg (by rw [zle (by omega) (by omega)]; omega), z12, ogd_ok (by omega) (by omega), zcl (by omega), hag q k hq hk, nI_1]
        cases zsb F q k
        · rw [if_neg (by decide), if_neg (by decide), ogd_ok (by omega) (by omega), zcl (by omega), ob1_some, ogd_ok (by omega) (by omega), h2 k (Nat.le_refl _)]
        · rw [if_pos z01_t, if_pos rfl, ob1_some, ogd_ok (by omega) (by omega), zcl (by omega)]
      · by_cases hjk : j = k
        · subst hjk
          rw [pk_us]
        · rw [pk_un (by omega)]
          exact h1 j (by omega)
      · rw [pk_un (by omega)]
        exact h2 j (by omega)
    · rintro t ⟨g2, rfl, h1, h2⟩
      refine ⟨g2, ?_, h1⟩
      unfold fX9_tellsApart_s307 fX9_tellsApart_b307
      dsimp only
      rw [h0, if_pos (by rw [zle (by omega) (by omega)]; omega)]
  have e0 : nI N - 1 = nI N + (-1) := by
    obtain ⟨m, rfl⟩ : ∃ m, N = m + 1 := ⟨N - 1, by omega⟩
    rw [nI_pred, pk_m1]
  rw [e0]
  have key := olp_gen (f := fX9_tellsApart_s299 st ia) (fun (r : zF) => ∀ j i, j < N → i < N → zsb F i j = true → (∀ k, k < i → zsb F k j = false) → r j = nI i) (fun t s => ∃ g, s = (nI (N - t) + (-1), g) ∧ ∀ j i, j < N → N - t ≤ i → i < N → zsb F i j = true → (∀ k, N - t ≤ k → k < i → zsb F k j = false) → g j = nI i) N ?_ ?_ oFu 0 (nI N + (-1), nr) (Nat.zero_le _) (oFu_big (by omega)) ⟨nr, rfl, fun j i _ h1 h2 => by omega⟩
  · exact key
  · rintro t s ht ⟨g, rfl, h⟩
    left
    obtain ⟨q, hq⟩ : ∃ q, N - t = q + 1 := ⟨N - t - 1, by omega⟩
    rw [hq] at h ⊢
    rw [pk_m1]
    obtain ⟨g2, e1, h2⟩ := hin q (by omega) g
    refine ⟨(nI q + (-1), g2), ?_, g2, by rw [show N - (t + 1) = q by omega], fun j i hj hi1 hi2 hb hk => ?_⟩
    · unfold fX9_tellsApart_s299 fX9_tellsApart_b299
      dsimp only
      rw [if_neg (zn0 (by omega)), e1, ob1_some]
    · rw [h2 j hj]
      by_cases hiq : i = q
      · subst hiq
        rw [if_pos hb]
      · rw [if_neg (by rw [hk q (by omega) (by omega)]; decide)]
        exact h j i hj (by omega) hi2 hb (fun k hk1 hk2 => hk k (by omega) hk2)
  · rintro s ⟨g, rfl, h⟩
    rw [Nat.sub_self] at h ⊢
    refine ⟨g, ?_, fun j i hj hi hb hk => h j i hj (Nat.zero_le _) hi hb (fun k _ hk2 => hk k hk2)⟩
    unfold fX9_tellsApart_s299 fX9_tellsApart_b299
    dsimp only
    rw [if_pos (by decide)]
theorem leastR_eq {N : Nat} (hN : N ≤ 12) {F : List Int32} (hok : zok N F) (hcov : ∀ i, i < N → zpos F i ≠ none) {row : zF} (h : ∀ j i, j < N → i < N → zsb F i j = true → (∀ k, k < i → zsb F k j = false) → row j = nI i) {a b : Nat} (ha : a < N) (hb : b < N) : row a = row b ↔ zpos F a = zpos F b := by
  have hl : ∀ j, j < N → ∃ i, i < N ∧ zsb F i j = true ∧ (∀ k, k < i → zsb F k j = false) ∧ row j = nI i := by
    intro j hj
    obtain ⟨i, h1, h2⟩ := pk_least (fun i => zsb F i j = true) ⟨j, zsb_iff.mpr (zsame_refl hok (by omega) (hcov j hj))⟩
    have hij : i < N := by
      apply Classical.byContradiction
      intro hn
      exact h2 j (by omega) (zsb_iff.mpr (zsame_refl hok (by omega) (hcov j hj)))
    have h3 : ∀ k, k < i → zsb F k j = false := fun k hk => by
      have := h2 k hk
      cases hz : zsb F k j with
      | false => rfl
      | true => exact absurd hz this
    exact ⟨i, hij, h1, h3, h j i hj hij h1 h3⟩
  obtain ⟨i, i1, i2, i3, i4⟩ := hl a ha
  obtain ⟨m, m1, m2, m3, m4⟩ := hl b hb
  rw [i4, m4, zeq (by omega) (by omega)]
  constructor
  · rintro rfl
    have e1 := (zsame_pos hok (by omega) (by omega) (hcov i i1)).mp (zsb_iff.mp i2)
    have e2 := (zsame_pos hok (by omega) (by omega) (hcov i i1)).mp (zsb_iff.mp m2)
    rw [← e1, ← e2]
  · intro he
    have hh : ∀ k, k < N → zsb F k a = zsb F k b := by
      intro k hk
      rw [Bool.eq_iff_iff, zsb_iff, zsb_iff, zsame_pos hok (by omega) (by omega) (hcov k hk), zsame_pos hok (by omega) (by omega) (hcov k hk), he]
    rcases Nat.lt_trichotomy i m with hlt | heq | hgt
    · have := m3 i hlt
      rw [← hh i i1, i2] at this
      cases this
    · exact heq
    · have := i3 m hgt
      rw [hh m m1, m2] at this
      cases this
theorem mem_of_eq {N : Nat} (hN : N ≤ 12) {Ls : List Int32} (hok : zok N Ls) {row : zF} (hr : ∀ i j, i < N → j < N → (row i = row j ↔ zpos Ls i = zpos Ls j)) {i k : Nat} {x : Int32} (hi : i < N) (hk : zpos Ls i = some k) (hx : Ls[k]? = some x) : zmk (fun j => decide (row j = row i)) N = x := by
  apply b_ext
  intro j hj
  rw [zb_mk _ N (by omega) j hj]
  cases hb : bt x j with
  | true =>
    have hjN := (hok.1 x (List.mem_of_getElem? hx)).2 j hj hb
    rw [decide_eq_true hjN, Bool.true_and]
    apply decide_eq_true
    rw [hr j i hjN hi, hk]
    exact zpos_of hok hj hx hb
  | false =>
    by_cases hjN : j < N
    · rw [decide_eq_true hjN, Bool.true_and]
      apply decide_eq_false
      rw [hr j i hjN hi, hk]
      intro h
      rw [zpos_bt h hx] at hb
      cases hb
    · rw [decide_eq_false hjN, Bool.false_and]
theorem arranges2_ok {N at_ : Nat} (hN : N ≤ 12) (hat : at_ + 12 ≤ 76) {st : Nat → Int32} (h0 : st 0 = nI N) {Ls L2 : List Int32} (hr : ∀ i j, i < N → j < N → (st (at_ + i) = st (at_ + j) ↔ zpos Ls i = zpos Ls j)) (hok : zok N Ls) (hcov : ∀ i, i < N → zpos Ls i ≠ none) (hp : L2.Perm Ls) (hso : zsorted L2) (d s e : Int32) (nr : Nat → Int32) : ∃ nr2, fX9_arranges (nI at_) d s e st nr = some ((fun j => if at_ ≤ j ∧ j < at_ + 12 then nr2 (j - at_) else st j), nr2) ∧ rowM N nr2 L2 := by
  have hl := zok_len hok
  have hok2 := zok_perm hp.symm hok
  have hl2 := hp.length_eq
  refine ⟨fun j => (zpos L2 j).elim (if 0 ≤ j ∧ j < 0 + 12 then st (at_ + (j - 0)) else nr j) nI, ?_, ?_⟩
  · unfold fX9_arranges
    refine ob1_of (bring_ok (a := at_) (b := 0) (n := 12) (by omega) (by omega) (by omega) (by omega) (by omega) st nr) ?_
    have key := zloop (f := fX9_arranges_s17 st (nI at_) d s e) (r := fun j => (zpos L2 j).elim (if 0 ≤ j ∧ j < 0 + 12 then st (at_ + (j - 0)) else nr j) nI) N (fun i => (nI (L2.filter (fun y => decide (zlst y < i))).length, fun j => (zpos (L2.filter (fun y => decide (zlst y < i))) j).elim (if 0 ≤ j ∧ j < 0 + 12 then st (at_ + (j - 0)) else nr j) nI)) 0 (Nat.zero_le _) (by omega) ?_ ?_
    · have e0 : L2.filter (fun y => decide (zlst y < 0)) = [] := by
        rw [List.filter_eq_nil_iff]
        intro y _
        simp
      rw [e0] at key
      refine ob1_of key ?_
      refine ob1_of (bring_ok (a := 0) (b := at_) (n := 12) (by omega) (by omega) (by omega) (by omega) (by omega) _ st) ?_
      simp only [Nat.zero_add]
    · intro i _ hi
      obtain ⟨k, hk⟩ : ∃ k, zpos Ls i = some k := by
        cases hz : zpos Ls i with
        | none => exact absurd hz (hcov i hi)
        | some k => exact ⟨k, rfl⟩
      have hkl := zpos_lt hk
      obtain ⟨x, hx⟩ : ∃ x, Ls[k]? = some x := ⟨_, List.getElem?_eq_getElem hkl⟩
      have hxm := List.mem_of_getElem? hx
      have hx0 := (hok.1 x hxm).1
      have hb := zpos_bt hk hx
      have hmem := mem_of_eq (row := fun i => st (at_ + i)) hN hok hr hi hk hx
      have hcond : (x &&& (((1 : Int32) <<< (nI i &&& 31)) - 1)) = 0 ↔ zlst x = i := by
        rw [zb_z]
        constructor
        · intro h
          refine zlst_uniq (by omega) hb (fun j hj => ?_)
          have := h j (by omega)
          rw [b_and, zb_all (by omega) (by omega), decide_eq_true hj, Bool.and_true] at this
          exact this
        · intro h j hj
          rw [b_and, zb_all (by omega) hj]
          by_cases hji : j < i
          · rw [(zlst_ok hx0).2.2 j (by omega)]
            rfl
          · rw [decide_eq_false hji, Bool.and_false]
      rw [zfil_succ hso i]
      unfold fX9_arranges_s17 fX9_arranges_b17
      dsimp only
      rw [h0, if_neg (by rw [zle (by omega) (by omega)]; omega), nI_add, ogd_ok (by omega) (by omega), zcl (by omega), members_ok hN hat h0, hmem]
      simp only [ob1]
      by_cases hc : zlst x = i
      · rw [if_pos (hcond.mpr hc), gives_ok hN h0]
        have e1 : L2.filter (fun y => decide (zlst y = i)) = [x] := by
          rw [← hc]
          exact zfil_one hso (hp.mem_iff.mpr hxm)
        have hokf : zok N (L2.filter (fun y => decide (zlst y < i)) ++ [x]) := by
          rw [← e1, ← zfil_succ hso i]
          exact zok_sublist List.filter_sublist hok2
        rw [e1, give_step hokf]
        simp only [List.length_append, List.length_cons, List.length_nil, nI_1]
      · rw [if_neg (fun q => hc (hcond.mp q))]
        have e1 : L2.filter (fun y => decide (zlst y = i)) = [] := by
          rw [List.filter_eq_nil_iff]
          intro y hy
          simp only [decide_eq_true_eq]
          intro hyi
          have hy2 := hp.mem_iff.mp hy
          obtain ⟨q, hq⟩ := List.getElem?_of_mem hy2
          obtain ⟨b1, b2, -⟩ := zlst_ok (hok.1 y hy2).1
          rw [hyi] at b2
          have := zpos_of hok (by omega) hq b2
          rw [hk] at this
          cases this
          rw [hx] at hq
          cases hq
          exact hc hyi
        rw [e1, List.append_nil, nI_1]
    · unfold fX9_arranges_s17 fX9_arranges_b17
      dsimp only
      rw [h0, if_pos (by rw [zle (by omega) (by omega)]; omega)]
      have e1 : L2.filter (fun y => decide (zlst y < N)) = L2 := by
        rw [List.filter_eq_self]
        intro y hy
        obtain ⟨b1, b2, -⟩ := zlst_ok (hok2.1 y hy).1
        simpa using (hok2.1 y hy).2 _ b1 b2
      rw [e1]
  · intro i hi
    have hne : zpos L2 i ≠ none := by
      intro h
      apply hcov i hi
      rw [zpos_none] at h ⊢
      intro j hj
      have hx : Ls[j]? = some (Ls.getD j 0) := by rw [List.getD_eq_getElem?_getD, List.getElem?_eq_getElem hj]; rfl
      have hm := hp.mem_iff.mpr (List.mem_of_getElem? hx)
      obtain ⟨q, hq⟩ := List.getElem?_of_mem hm
      have := h q (List.getElem?_eq_some_iff.mp hq).1
      rw [List.getD_eq_getElem?_getD, hq] at this
      exact this
    exact zelim_zpI _ _ hne
theorem arranges2_ok_a {N at_ : Nat} (hN : N ≤ 12) (hat : at_ + 12 ≤ 12) {st asd : Nat → Int32} (h0 : st 0 = nI N) {Ls L2 : List Int32} (hr : ∀ i j, i < N → j < N → (asd (at_ + i) = asd (at_ + j) ↔ zpos Ls i = zpos Ls j)) (hok : zok N Ls) (hcov : ∀ i, i < N → zpos Ls i ≠ none) (hp : L2.Perm Ls) (hso : zsorted L2) (d s e : Int32) (nr : Nat → Int32) : ∃ nr2, fX9_arranges_a (nI at_) d s e st nr asd = some (nr2, fun j => if at_ ≤ j ∧ j < at_ + 12 then nr2 (j - at_) else asd j) ∧ rowM N nr2 L2 := by
  have hl := zok_len hok
  have hok2 := zok_perm hp.symm hok
  have hl2 := hp.length_eq
  refine ⟨fun j => (zpos L2 j).elim (if 0 ≤ j ∧ j < 0 + 12 then asd (at_ + (j - 0)) else nr j) nI, ?_, ?_⟩
  · unfold fX9_arranges_a
    refine ob1_of (bring_ok (a := at_) (b := 0) (n := 12) (by omega) (by omega) (by omega) (by omega) (by omega) asd nr) ?_
    have key := zloop (f := fX9_arranges_a_s17 st (nI at_) asd d s e) (r := fun j => (zpos L2 j).elim (if 0 ≤ j ∧ j < 0 + 12 then asd (at_ + (j - 0)) else nr j) nI) N (fun i => (nI (L2.filter (fun y => decide (zlst y < i))).length, fun j => (zpos (L2.filter (fun y => decide (zlst y < i))) j).elim (if 0 ≤ j ∧ j < 0 + 12 then asd (at_ + (j - 0)) else nr j) nI)) 0 (Nat.zero_le _) (by omega) ?_ ?_
    · have e0 : L2.filter (fun y => decide (zlst y < 0)) = [] := by
        rw [List.filter_eq_nil_iff]
        intro y _
        simp
      rw [e0] at key
      refine ob1_of key ?_
      refine ob1_of (bring_ok (a := 0) (b := at_) (n := 12) (by omega) (by omega) (by omega) (by omega) (by omega) _ asd) ?_
      simp only [Nat.zero_add]
    · intro i _ hi
      obtain ⟨k, hk⟩ : ∃ k, zpos Ls i = some k := by
        cases hz : zpos Ls i with
        | none => exact absurd hz (hcov i hi)
        | some k => exact ⟨k, rfl⟩
      have hkl := zpos_lt hk
      obtain ⟨x, hx⟩ : ∃ x, Ls[k]? = some x := ⟨_, List.getElem?_eq_getElem hkl⟩
      have hxm := List.mem_of_getElem? hx
      have hx0 := (hok.1 x hxm).1
      have hb := zpos_bt hk hx
      have hmem := mem_of_eq (row := fun i => asd (at_ + i)) hN hok hr hi hk hx
      have hcond : (x &&& (((1 : Int32) <<< (nI i &&& 31)) - 1)) = 0 ↔ zlst x = i := by
        rw [zb_z]
        constructor
        · intro h
          refine zlst_uniq (by omega) hb (fun j hj => ?_)
          have := h j (by omega)
          rw [b_and, zb_all (by omega) (by omega), decide_eq_true hj, Bool.and_true] at this
          exact this
        · intro h j hj
          rw [b_and, zb_all (by omega) hj]
          by_cases hji : j < i
          · rw [(zlst_ok hx0).2.2 j (by omega)]
            rfl
          · rw [decide_eq_false hji, Bool.and_false]
      rw [zfil_succ hso i]
      unfold fX9_arranges_a_s17 fX9_arranges_a_b17
      dsimp only
      rw [h0, if_neg (by rw [zle (by omega) (by omega)]; omega), nI_add, ogd_ok (by omega) (by omega), zcl (by omega), members_ok_a hN hat h0, hmem]
      simp only [ob1]
      by_cases hc : zlst x = i
      · rw [if_pos (hcond.mpr hc), gives_ok hN h0]
        have e1 : L2.filter (fun y => decide (zlst y = i)) = [x] := by
          rw [← hc]
          exact zfil_one hso (hp.mem_iff.mpr hxm)
        have hokf : zok N (L2.filter (fun y => decide (zlst y < i)) ++ [x]) := by
          rw [← e1, ← zfil_succ hso i]
          exact zok_sublist List.filter_sublist hok2
        rw [e1, give_step hokf]
        simp only [List.length_append, List.length_cons, List.length_nil, nI_1]
      · rw [if_neg (fun q => hc (hcond.mp q))]
        have e1 : L2.filter (fun y => decide (zlst y = i)) = [] := by
          rw [List.filter_eq_nil_iff]
          intro y hy
          simp only [decide_eq_true_eq]
          intro hyi
          have hy2 := hp.mem_iff.mp hy
          obtain ⟨q, hq⟩ := List.getElem?_of_mem hy2
          obtain ⟨b1, b2, -⟩ := zlst_ok (hok.1 y hy2).1
          rw [hyi] at b2
          have := zpos_of hok (by omega) hq b2
          rw [hk] at this
          cases this
          rw [hx] at hq
          cases hq
          exact hc hyi
        rw [e1, List.append_nil, nI_1]
    · unfold fX9_arranges_a_s17 fX9_arranges_a_b17
      dsimp only
      rw [h0, if_pos (by rw [zle (by omega) (by omega)]; omega)]
      have e1 : L2.filter (fun y => decide (zlst y < N)) = L2 := by
        rw [List.filter_eq_self]
        intro y hy
        obtain ⟨b1, b2, -⟩ := zlst_ok (hok2.1 y hy).1
        simpa using (hok2.1 y hy).2 _ b1 b2
      rw [e1]
  · intro i hi
    have hne : zpos L2 i ≠ none := by
      intro h
      apply hcov i hi
      rw [zpos_none] at h ⊢
      intro j hj
      have hx : Ls[j]? = some (Ls.getD j 0) := by rw [List.getD_eq_getElem?_getD, List.getElem?_eq_getElem hj]; rfl
      have hm := hp.mem_iff.mpr (List.mem_of_getElem? hx)
      obtain ⟨q, hq⟩ := List.getElem?_of_mem hm
      have := h q (List.getElem?_eq_some_iff.mp hq).1
      rw [List.getD_eq_getElem?_getD, hq] at this
      exact this
    exact zelim_zpI _ _ hne
