/-! ===== search: both sides ===== -/
theorem zcn_mono {x y : Int32} : ∀ n, (∀ i, i < n → bt x i = true → bt y i = true) → zcn x n ≤ zcn y n
  | 0, _ => Nat.le_refl 0
  | n + 1, h => by
    have ih := zcn_mono n (fun i hi => h i (by omega))
    have hn := h n (by omega)
    rw [zcn, zcn]
    cases hx : bt x n with
    | false => simp; omega
    | true =>
      rw [hn hx]
      simp
      exact ih
theorem zcn_or {x : Int32} {v : Nat} (hv : v < 32) (hb : bt x v = false) : ∀ n, n ≤ 32 → zcn (x ||| (1 : Int32) <<< (nI v &&& 31)) n = zcn x n + if v < n then 1 else 0
  | 0, _ => by simp [zcn]
  | n + 1, hn => by
    rw [zcn, zcn, zcn_or hv hb n (by omega), b_or, zb_one hv (by omega)]
    by_cases h : n = v
    · subst h
      rw [hb]
      simp
    · rw [decide_eq_false h, Bool.or_false]
      have e : (if v < n + 1 then 1 else 0 : Nat) = (if v < n then 1 else 0 : Nat) := by
        by_cases h2 : v < n
        · rw [if_pos h2, if_pos (show v < n + 1 by omega)]
        · rw [if_neg h2, if_neg (show ¬ v < n + 1 by omega)]
      rw [e]
      exact Nat.add_right_comm _ _ _
theorem zcnt_or {x : Int32} {v : Nat} (hv : v < 12) (hb : bt x v = false) : zcnt (x ||| (1 : Int32) <<< (nI v &&& 31)) = zcnt x + 1 := by
  unfold zcnt
  rw [zcn_or (by omega) hb 12 (by omega), if_pos hv]
theorem zcn_sub {x : Int32} {N : Nat} (h : zsub N x) : ∀ m, N + m ≤ 32 → zcn x (N + m) = zcn x N
  | 0, _ => rfl
  | m + 1, hm => by
    have : bt x (N + m) = false := by
      cases hb : bt x (N + m) with
      | false => rfl
      | true => have := h (N + m) (by omega) hb; omega
    rw [← Nat.add_assoc, zcn, this, zcn_sub h m (by omega)]
    simp
theorem zcnt_sub {x : Int32} {N : Nat} (hN : N ≤ 12) (h : zsub N x) : zcnt x = zcn x N := by
  have := zcn_sub h (12 - N) (by omega)
  rw [show N + (12 - N) = 12 by omega] at this
  exact this
theorem zcn_all {x : Int32} : ∀ n, zcn x n = n ↔ ∀ i, i < n → bt x i = true
  | 0 => ⟨fun _ i hi => absurd hi (Nat.not_lt_zero i), fun _ => rfl⟩
  | n + 1 => by
    have hle := zcn_le x n
    have ih := zcn_all (x := x) n
    rw [zcn]
    constructor
    · intro h i hi
      cases hb : bt x n with
      | false => rw [hb] at h; simp at h; omega
      | true =>
        rw [hb] at h
        simp at h
        by_cases hin : i = n
        · rw [hin]; exact hb
        · exact ih.mp h i (by omega)
    · intro h
      rw [h n (by omega), ih.mpr (fun i hi => h i (by omega))]
      simp
theorem zcnt_0 : zcnt 0 = 0 := by decide
/-- the first k of a row of items, as a set -/
def zsn (o : Nat → Nat) : Nat → Int32
  | 0 => 0
  | k + 1 => zsn o k ||| (1 : Int32) <<< (nI (o k) &&& 31)
theorem zsn_bt {o : Nat → Nat} {i : Nat} (hi : i < 32) : ∀ k, (∀ j, j < k → o j < 32) → (bt (zsn o k) i = true ↔ ∃ j, j < k ∧ o j = i)
  | 0, _ => by
    rw [zsn, b_0]
    constructor
    · intro h; cases h
    · rintro ⟨j, hj, -⟩; omega
  | k + 1, h => by
    rw [zsn, b_or, Bool.or_eq_true, zsn_bt hi k (fun j hj => h j (by omega)), zb_one (h k (by omega)) hi, decide_eq_true_eq]
    constructor
    · rintro (⟨j, hj, e⟩ | e)
      · exact ⟨j, by omega, e⟩
      · exact ⟨k, by omega, e.symm⟩
    · rintro ⟨j, hj, e⟩
      by_cases hjk : j = k
      · right
        rw [← e, hjk]
      · exact Or.inl ⟨j, by omega, e⟩
/-- the least item of the first class leaves it -/
def zmin (x : Int32) : Int32 := x &&& (((1 : Int32) <<< (nI (zlst x) &&& 31)) ^^^ (-1))
def zhd (Ls : List Int32) : Nat := zlst (Ls.headD 0)
def zdrop : List Int32 → List Int32
  | [] => []
  | x :: r => if zmin x = 0 then r else zmin x :: r
theorem zdrop_c (x : Int32) (r : List Int32) : zdrop (x :: r) = if zmin x = 0 then r else zmin x :: r := rfl
def zW (near : zF) (L0 : List Int32) : Nat → List Int32
  | 0 => L0
  | k + 1 => zspl (near (zhd (zW near L0 k))) (zdrop (zW near L0 k))
theorem zmin_bt {x : Int32} (h0 : ¬ x = 0) {i : Nat} (hi : i < 32) : bt (zmin x) i = (bt x i && decide (i ≠ zlst x)) := by
  unfold zmin
  rw [b_and, zb_not _ hi, zb_one (zlst_ok h0).1 hi]
  simp
theorem drop_64 : ∀ a, a < 64 → ∀ b, b < 64 → 64 * a + b = 0 ∨ (nI (64 * a + b) &&& (nI (64 * a + b) - 1)) = zmin (nI (64 * a + b)) := by decide +kernel
theorem drop_ok {x : Int32} (h : zsub 12 x) (h0 : ¬ x = 0) : (x &&& (x - 1)) = zmin x := by
  obtain ⟨X, hX, rfl⟩ := znat12 h
  have := drop_64 (X / 64) (by omega) (X % 64) (by omega)
  rw [show 64 * (X / 64) + X % 64 = X by omega] at this
  rcases this with h1 | h1
  · subst h1
    exact absurd rfl h0
  · exact h1
theorem zdrop_ok {N : Nat} {x : Int32} {r : List Int32} (h : zok N (x :: r)) : zok N (zdrop (x :: r)) := by
  have hx := h.1 x (by simp)
  have hr : zok N r := ⟨fun y hy => h.1 y (by simp [hy]), (List.pairwise_cons.mp h.2).2⟩
  rw [zdrop_c]
  by_cases h0 : zmin x = 0
  · rw [if_pos h0]
    exact hr
  · rw [if_neg h0]
    refine ⟨fun y hy => ?_, List.pairwise_cons.mpr ⟨fun y hy i hi hb => ?_, hr.2⟩⟩
    · rcases List.mem_cons.mp hy with rfl | hy
      · refine ⟨h0, fun i hi hb => ?_⟩
        rw [zmin_bt hx.1 hi] at hb
        simp at hb
        exact hx.2 i hi hb.1
      · exact hr.1 y hy
    · rw [zmin_bt hx.1 hi] at hb
      simp at hb
      exact (List.pairwise_cons.mp h.2).1 y hy i hi hb.1
theorem zdrop_none {N : Nat} {x : Int32} {r : List Int32} (h : zok N (x :: r)) {i : Nat} (hi : i < 32) : zpos (zdrop (x :: r)) i = none ↔ (zpos (x :: r) i = none ∨ i = zlst x) := by
  have hx := h.1 x (by simp)
  obtain ⟨a1, a2, -⟩ := zlst_ok hx.1
  have hr : bt x i = true → zpos r i = none := by
    intro hb
    rw [zpos_none]
    intro j hj
    have hy : r[j]? = some (r.getD j 0) := by rw [List.getD_eq_getElem?_getD, List.getElem?_eq_getElem hj]; rfl
    exact (List.pairwise_cons.mp h.2).1 _ (List.mem_of_getElem? hy) i hi hb
  have e1 : zpos (x :: r) i = if bt x i = true then some 0 else (zpos r i).map (· + 1) := rfl
  rw [zdrop_c]
  by_cases h0 : zmin x = 0
  · rw [if_pos h0, e1]
    have hb := zmin_bt hx.1 hi
    rw [h0, b_0] at hb
    by_cases hxi : bt x i = true
    · rw [if_pos hxi, hr hxi]
      rw [hxi] at hb
      simp at hb
      simp [hb]
    · rw [if_neg hxi]
      have : ¬ i = zlst x := by
        intro e
        rw [e] at hxi
        exact hxi a2
      simp [this]
  · rw [if_neg h0, e1]
    have e2 : zpos (zmin x :: r) i = if bt (zmin x) i = true then some 0 else (zpos r i).map (· + 1) := rfl
    rw [e2, zmin_bt hx.1 hi]
    by_cases hxi : bt x i = true
    · rw [if_pos hxi, hxi]
      by_cases he : i = zlst x
      · rw [if_neg (by simp [he]), hr hxi]
        simp [he]
      · rw [if_pos (by simp [he])]
        simp [he]
    · rw [if_neg hxi, if_neg (by simp [hxi])]
      have : ¬ i = zlst x := by
        intro e
        rw [e] at hxi
        exact hxi a2
      simp [this]
/-- what is so after k steps of a search -/
def zWk (N : Nat) (o : Nat → Nat) (Ls : List Int32) (k : Nat) : Prop := zok N Ls ∧ (∀ i, i < N → (zpos Ls i = none ↔ bt (zsn o k) i = true)) ∧ zcnt (zsn o k) = k ∧ zsub N (zsn o k)
theorem zWk_next {N : Nat} (hN : N ≤ 12) {o : Nat → Nat} {Ls : List Int32} {k : Nat} (hk : k < N) (h : zWk N o Ls k) : ∃ x r, Ls = x :: r ∧ zlst x < N ∧ bt (zsn o k) (zlst x) = false := by
  obtain ⟨h1, h2, h3, h4⟩ := h
  rw [zcnt_sub hN h4] at h3
  cases Ls with
  | nil =>
    exfalso
    have : zcn (zsn o k) N = N := (zcn_all N).mpr (fun i hi => (h2 i hi).mp rfl)
    omega
  | cons x r =>
    obtain ⟨a1, a2, -⟩ := zlst_ok (h1.1 x (by simp)).1
    have hlt := (h1.1 x (by simp)).2 _ a1 a2
    refine ⟨x, r, rfl, hlt, ?_⟩
    cases hb : bt (zsn o k) (zlst x) with
    | false => rfl
    | true =>
      have := (h2 _ hlt).mpr hb
      have e1 : zpos (x :: r) (zlst x) = if bt x (zlst x) = true then some 0 else (zpos r (zlst x)).map (· + 1) := rfl
      rw [e1, if_pos a2] at this
      cases this
theorem zWk_step {N : Nat} (hN : N ≤ 12) {near : zF} {L0 : List Int32} (h0 : zok N L0) (hc : ∀ i, i < N → zpos L0 i ≠ none) : ∀ k, k ≤ N → zWk N (fun k => zhd (zW near L0 k)) (zW near L0 k) k
  | 0, _ => by
    refine ⟨h0, fun i hi => ⟨fun h => absurd h (hc i hi), fun h => ?_⟩, zcnt_0, fun i hi hb => ?_⟩
    · rw [zsn, b_0] at h; cases h
    · rw [zsn, b_0] at hb; cases hb
  | k + 1, hk => by
    have ih := zWk_step hN h0 hc k (by omega) (near := near)
    obtain ⟨x, r, hx, hlt, hb⟩ := zWk_next hN (show k < N by omega) ih
    obtain ⟨h1, h2, h3, h4⟩ := ih
    have ho : zhd (zW near L0 k) = zlst x := by rw [hx]; rfl
    have e1 : zW near L0 (k + 1) = zspl (near (zhd (zW near L0 k))) (zdrop (zW near L0 k)) := rfl
    have e2 : zsn (fun k => zhd (zW near L0 k)) (k + 1) = zsn (fun k => zhd (zW near L0 k)) k ||| (1 : Int32) <<< (nI (zlst x) &&& 31) := by
      rw [zsn, ho]
    unfold zWk
    rw [e1, e2]
    generalize zsn (fun k => zhd (zW near L0 k)) k = sn at h2 h3 h4 hb
    rw [hx] at h1 h2 ⊢
    have hd := zdrop_ok h1
    refine ⟨zspl_ok hd, fun i hi => ?_, ?_, fun i hi hbi => ?_⟩
    · rw [zspl_none hd, zdrop_none h1 (by omega), h2 i hi, b_or, zb_one (by omega) (by omega), Bool.or_eq_true, decide_eq_true_eq]
    · rw [zcnt_or (by omega) hb, h3]
    · rw [b_or, zb_one (by omega) hi] at hbi
      simp at hbi
      rcases hbi with hbi | hbi
      · exact h4 i hi hbi
      · omega
theorem take_ok {N : Nat} (hN : N ≤ 12) {c : Int32} {f : zF} {x : Int32} {r : List Int32} (h : rowC c f (x :: r)) (hok : zok N (x :: r)) : ∃ c2 f2, fX5_takeLeast c f = some (nI (zlst x), c2, f2) ∧ rowC c2 f2 (zdrop (x :: r)) := by
  have hl := h.2.1
  have hx := hok.1 x (by simp)
  have hs := zok_sub hok hN (show x ∈ x :: r by simp)
  have hf0 : f 0 = x := h.2.2 0 x rfl
  have hlen : (x :: r).length = r.length + 1 := rfl
  have hc0 : ¬ c = 0 := by
    rw [h.1, hlen]
    exact nI_ne0 (by omega) (by omega)
  unfold fX5_takeLeast
  rw [zdrop_c]
  rw [if_neg hc0, hf0, least_ok hs hx.1, ob1_some, pk_us, drop_ok hs hx.1]
  by_cases h0 : zmin x = 0
  · rw [if_pos h0, if_pos h0, h.1]
    have hcl := close_ok (C := (x :: r).length) (k := 0) (by rw [hlen]; omega) (by omega) (upd f 0 (zmin x))
    refine ⟨_, _, ob2_of hcl rfl, ?_⟩
    refine ⟨by rw [hlen]; rfl, by rw [hlen] at hl; omega, fun k y hy => ?_⟩
    have hk : k < r.length := (List.getElem?_eq_some_iff.mp hy).1
    dsimp only
    rw [if_pos ⟨by omega, by rw [hlen]; omega⟩, pk_un (by omega)]
    exact h.2.2 (k + 1) y hy
  · rw [if_neg h0, if_neg h0]
    refine ⟨_, _, rfl, h.1, hl, fun k y hy => ?_⟩
    cases k with
    | zero =>
      rw [pk_us]
      exact Option.some.inj hy
    | succ k =>
      rw [pk_un (by omega)]
      exact h.2.2 (k + 1) y hy
theorem walkX_ok {N : Nat} (hN1 : 1 ≤ N) (hN : N ≤ 12) (sl sfin swk : Int32) (near : zF) {q : Nat} (hq : q < N) (ord earl : zF) (kc : Int32) (kf : zF) : ∃ ord2 earl2 kc2 kf2, fX7_walkFrom (nI q) ord earl kc kf (nI N) sl sfin swk near = some (ord2, earl2, kc2, kf2) ∧ ∀ k, k < N → ord2 k = nI (zhd (zW near (zspl ((1 : Int32) <<< (nI q &&& 31)) [zall N]) k)) ∧ earl2 k = zsn (fun k => zhd (zW near (zspl ((1 : Int32) <<< (nI q &&& 31)) [zall N]) k)) k := by
  obtain ⟨c0, f0, e0, hr0⟩ := gather_ok (zall N) kc kf
  obtain ⟨c1, f1, e1, hr1⟩ := cut_ok hN hr0 (zall_ok hN1 hN) ((1 : Int32) <<< (nI q &&& 31))
  have hok0 := zspl_ok (s := (1 : Int32) <<< (nI q &&& 31)) (zall_ok hN1 hN)
  have hcov0 : ∀ i, i < N → zpos (zspl ((1 : Int32) <<< (nI q &&& 31)) [zall N]) i ≠ none := fun i hi h => by
    rw [zspl_none (zall_ok hN1 hN), zall_pos hN hi] at h
    cases h
  generalize zspl ((1 : Int32) <<< (nI q &&& 31)) [zall N] = L0 at hr1 hok0 hcov0 ⊢
  have hw := zWk_step (near := near) hN hok0 hcov0
  unfold fX7_walkFrom fX6_all
  rw [ob1_some]
  have key := olp_gen (f := fX7_walkFrom_s26 (nI N) sl sfin swk near) (fun (r : zF × zF × Int32 × zF) => ∀ k, k < N → r.1 k = nI (zhd (zW near L0 k)) ∧ r.2.1 k = zsn (fun k => zhd (zW near L0 k)) k) (fun k t => ∃ od ea c g, t = (nI k, zsn (fun k => zhd (zW near L0 k)) k, od, ea, c, g) ∧ rowC c g (zW near L0 k) ∧ ∀ j, j < k → od j = nI (zhd (zW near L0 j)) ∧ ea j = zsn (fun k => zhd (zW near L0 k)) j) N ?_ ?_ oFu 0 ((0 : Int32), (0 : Int32), ord, earl, c1, f1) (Nat.zero_le _) (oFu_big (by omega)) ⟨ord, earl, c1, f1, rfl, hr1, fun j h => absurd h (Nat.not_lt_zero j)⟩
  · obtain ⟨⟨o2, e2, k2, g2⟩, e, h⟩ := key
    refine ⟨o2, e2, k2, g2, ?_, h⟩
    exact ob2_of e0 (ob2_of e1 e)
  · rintro k t hk ⟨od, ea, c, g, rfl, h1, h2⟩
    left
    obtain ⟨x, r, hx, hlt, hb⟩ := zWk_next hN hk (hw k (by omega))
    have ho : zhd (zW near L0 k) = zlst x := by rw [hx]; rfl
    have hok := (hw k (by omega)).1
    rw [hx] at h1 hok
    obtain ⟨c2, g2, e2, h3⟩ := take_ok hN h1 hok
    obtain ⟨c3, g3, e3, h4⟩ := cut_ok hN h3 (zdrop_ok hok) (near (zlst x))
    refine ⟨(nI (k + 1), zsn (fun k => zhd (zW near L0 k)) (k + 1), upd od k (nI (zlst x)), upd ea k (zsn (fun k => zhd (zW near L0 k)) k), c3, g3), ?_, _, _, _, _, rfl, ?_, fun j hj => ?_⟩
    · unfold fX7_walkFrom_s26 fX7_walkFrom_b26
      dsimp only
      rw [if_neg (by rw [zle (by omega) (by omega)]; omega), e2, ob3_some, hasItem_in hlt hN, ob1_some, if_neg n10, ogd_ok (by omega) (by omega), ogd_ok (by omega) (by omega), ogd_ok (by omega) (by omega), zcl (by omega), zcl (by omega), e3, ob2_some, nI_1, zsn, ho]
    · show rowC c3 g3 (zspl (near (zhd (zW near L0 k))) (zdrop (zW near L0 k)))
      rw [ho, hx]
      exact h4
    · by_cases hjk : j = k
      · subst hjk
        rw [pk_us, pk_us, ho]
        exact ⟨rfl, rfl⟩
      · rw [pk_un (by omega), pk_un (by omega)]
        exact h2 j (by omega)
  · rintro t ⟨od, ea, c, g, rfl, h1, h2⟩
    refine ⟨(od, ea, c, g), ?_, h2⟩
    unfold fX7_walkFrom_s26 fX7_walkFrom_b26
    dsimp only
    rw [if_pos (by rw [zle (by omega) (by omega)]; omega)]
