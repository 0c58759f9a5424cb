/-! ===== fault, clique ===== -/
theorem onm_i {α ρ : Type} (x : α) (k : α → Option ρ) : onm x k = k x := rfl
/-- the last one of a set in a row, ahead of place k -/
def zla (o : Nat → Nat) (A : Int32) : Nat → Int32
  | 0 => -1
  | k + 1 => if bt A (o k) = true then nI (o k) else zla o A k
theorem zla_ok {o : Nat → Nat} {A : Int32} : ∀ k, (zla o A k = -1 ∧ ∀ j, j < k → bt A (o j) = false) ∨ ∃ j, j < k ∧ zla o A k = nI (o j) ∧ bt A (o j) = true ∧ ∀ m, j < m → m < k → bt A (o m) = false
  | 0 => Or.inl ⟨rfl, fun j hj => absurd hj (Nat.not_lt_zero j)⟩
  | k + 1 => by
    rw [zla]
    cases hb : bt A (o k) with
    | true =>
      right
      exact ⟨k, by omega, by rw [if_pos rfl], hb, fun m h1 h2 => by omega⟩
    | false =>
      rw [if_neg (by decide)]
      rcases zla_ok (o := o) (A := A) k with ⟨e, h⟩ | ⟨j, hj, e, h1, h2⟩
      · left
        refine ⟨e, fun j hj => ?_⟩
        by_cases hjk : j = k
        · rw [hjk]; exact hb
        · exact h j (by omega)
      · right
        refine ⟨j, by omega, e, h1, fun m hm1 hm2 => ?_⟩
        by_cases hmk : m = k
        · rw [hmk]; exact hb
        · exact h2 m hm1 (by omega)
theorem lastX_ok {ord : zF} {o : Nat → Nat} (A : Int32) {k : Nat} (hk : k ≤ 12) (ho : ∀ j, j < k → ord j = nI (o j) ∧ o j < 12) : fX7_lastOf A (nI k) ord = some (zla o A k) := by
  have key : ∀ k, k ≤ 12 → (∀ j, j < k → ord j = nI (o j) ∧ o j < 12) → ∀ n, k < n → olp (fX7_lastOf_s4 A ord) n (nI k + (-1)) = some (zla o A k) := by
    intro k
    induction k with
    | zero =>
      intro _ _ n hn
      obtain ⟨m, rfl⟩ : ∃ m, n = m + 1 := ⟨n - 1, by omega⟩
      have e1 : fX7_lastOf_s4 A ord (nI 0 + (-1)) = some (.inr (-1)) := by
        unfold fX7_lastOf_s4 fX7_lastOf_b4
        rw [if_pos (by decide)]
      unfold olp
      rw [e1]
      rfl
    | succ k ih =>
      intro hk ho n hn
      obtain ⟨m, rfl⟩ : ∃ m, n = m + 1 := ⟨n - 1, by omega⟩
      obtain ⟨o1, o2⟩ := ho k (by omega)
      rw [pk_m1]
      have e1 : fX7_lastOf_s4 A ord (nI k) = if bt A (o k) = true then some (.inr (nI (o k))) else some (.inl (nI k + (-1))) := by
        unfold fX7_lastOf_s4 fX7_lastOf_b4
        rw [if_neg (zn0 (by omega)), ogd_ok (by omega) (by omega), zcl (by omega), o1, zb_bit A (by omega), ogd_ok (by omega) (by omega)]
        cases bt A (o k)
        · rfl
        · rfl
      unfold olp
      rw [e1, zla]
      cases bt A (o k) with
      | true => rfl
      | false =>
        rw [if_neg (by decide), if_neg (by decide)]
        exact ih (by omega) (fun j hj => ho j (by omega)) m (by omega)
  unfold fX7_lastOf
  have e : nI k - 1 = nI k + (-1) := by
    cases k with
    | zero => decide
    | succ k => rw [nI_pred, pk_m1]
  rw [e]
  exact key k hk ho oFu (oFu_big (by omega))
theorem lastM_ok {sea : zF} {o : Nat → Nat} (A : Int32) {k : Nat} (hk : k ≤ 12) (ho : ∀ j, j < k → sea j = nI (o j) ∧ o j < 12) : olp (fX9_faultNow_s45 (nI k) A sea) oFu ((0 : Int32), (-1 : Int32)) = some (zla o A k) := by
  refine zloop k (fun n => zla o A n) 0 (Nat.zero_le _) (by omega) ?_ ?_
  · intro n _ hn
    obtain ⟨o1, o2⟩ := ho n hn
    unfold fX9_faultNow_s45 fX9_faultNow_b45
    dsimp only
    rw [if_neg (by rw [zle (by omega) (by omega)]; omega), ogd_ok (by omega) (by omega), zcl (by omega), o1, has_ok A (by omega), ob1_some, ogd_ok (by omega) (by omega), nI_1, zla]
    cases bt A (o n)
    · rfl
    · rfl
  · unfold fX9_faultNow_s45 fX9_faultNow_b45
    dsimp only
    rw [if_pos (by rw [zle (by omega) (by omega)]; omega)]
/-- those near the k-th that are ahead of it -/
def zA (near : zF) (o : Nat → Nat) (k : Nat) : Int32 := near (o k) &&& zsn o k
def zXn (near : zF) (A : Int32) (v : Nat) : Int32 := (A &&& (((1 : Int32) <<< (nI v &&& 31)) ^^^ (-1 : Int32))) &&& ((near v) ^^^ (-1 : Int32))
theorem zXn_0 {near : zF} {A : Int32} {v : Nat} (hv : v < 32) : zXn near A v = 0 ↔ ∀ j, j < 32 → bt A j = true → j ≠ v → bt (near v) j = true := by
  rw [zb_z]
  constructor
  · intro h j hj hb hne
    have := h j hj
    unfold zXn at this
    rw [b_and, b_and, zb_not _ hj, zb_not _ hj, zb_one hv hj, hb, decide_eq_false hne] at this
    simpa using this
  · intro h j hj
    unfold zXn
    rw [b_and, b_and, zb_not _ hj, zb_not _ hj, zb_one hv hj]
    cases hb : bt A j with
    | false => rfl
    | true =>
      by_cases hne : j = v
      · simp [hne]
      · rw [h j hj hb hne]
        simp
def zbad (near : zF) (o : Nat → Nat) (k : Nat) : Prop := ∃ v, v < 12 ∧ zla o (zA near o k) k = nI v ∧ ¬ zXn near (zA near o k) v = 0
section FT
variable {N : Nat} {near ord earl : zF} {o : Nat → Nat}
theorem ahead_ok (hN : N ≤ 12) (ho : ∀ k, k < N → o k < N) (hX : ∀ k, k < N → ord k = nI (o k) ∧ earl k = zsn o k) {k : Nat} (hk : k < N) (n l f w : Int32) : fX7_nearAhead (nI k) ord earl n l f w near = some (zA near o k) := by
  obtain ⟨x1, x2⟩ := hX k hk
  have := ho k hk
  unfold fX7_nearAhead zA
  rw [ogd_ok (by omega) (by omega), zcl (by omega), x1, ogd_ok (by omega) (by omega), zcl (by omega), ogd_ok (by omega) (by omega), x2]
theorem faultS_ok (hN : N ≤ 12) (ho : ∀ k, k < N → o k < N) (hX : ∀ k, k < N → ord k = nI (o k) ∧ earl k = zsn o k) {st sea : zF} (h0 : st 0 = nI N) (hn : ∀ i, i < N → st (16 + i) = near i) (hM : ∀ k, k < N → sea k = nI (o k)) {k : Nat} (hk : k < N) (l f w : Int32) (nr asd : zF) : (zbad near o k ∧ fX7_fault_s2 (nI N) ord earl l f w near (nI k) = some (.inr (nI (o k))) ∧ fX9_faultNow_s9 st nr asd sea (nI k, zsn o k) = some (.inr (nI (o k), nr, asd, sea))) ∨ ((¬ zbad near o k) ∧ fX7_fault_s2 (nI N) ord earl l f w near (nI k) = some (.inl (nI (k + 1))) ∧ fX9_faultNow_s9 st nr asd sea (nI k, zsn o k) = some (.inl (nI (k + 1), zsn o (k + 1)))) := by
  have hok := ho k hk
  have hlX := lastX_ok (ord := ord) (o := o) (zA near o k) (show k ≤ 12 by omega) (fun j hj => ⟨(hX j (by omega)).1, by have := ho j (by omega); omega⟩)
  have hlM := lastM_ok (sea := sea) (o := o) (zA near o k) (show k ≤ 12 by omega) (fun j hj => ⟨hM j (by omega), by have := ho j (by omega); omega⟩)
  have hah := ahead_ok hN ho hX hk (near := near) (nI N) l f w
  have hA : st (16 + o k) &&& zsn o k = zA near o k := by rw [hn _ hok]; rfl
  unfold fX7_fault_s2 fX7_fault_b2 fX9_faultNow_s9 fX9_faultNow_b9
  dsimp only
  rw [h0, if_neg (show ¬ nI N ≤ nI k by rw [zle (by omega) (by omega)]; omega), if_neg (show ¬ nI N ≤ nI k by rw [zle (by omega) (by omega)]; omega), hah, ob1_some, hlX, ob1_some, zcl (by omega), hM k hk, za16]
  have hg1 : ∀ (ρ : Type) (K : Option ρ), ogd (nI k) 12 K = K := fun ρ K => ogd_ok (by omega) (by omega)
  have hg2 : ∀ (ρ : Type) (K : Option ρ), ogd (nI (16 + o k)) 76 K = K := fun ρ K => ogd_ok (by omega) (by omega)
  simp only [hg1, hg2, onm_i]
  rw [zcl (show 16 + o k < 2 ^ 31 by omega), hA, hlM, ob1_some]
  rcases zla_ok (o := o) (A := zA near o k) k with ⟨e, -⟩ | ⟨j, hj, e, hbj, -⟩
  · right
    refine ⟨?_, ?_, ?_⟩
    · rintro ⟨v, hv, ev, -⟩
      rw [e] at ev
      exact zne1 (show v < 2 ^ 31 by omega) ev.symm
    · rw [if_pos e, nI_1]
    · rw [if_pos e, nI_1]
      rfl
  · have hoj := ho j (by omega)
    have hne : ¬ nI (o j) = -1 := zne1 (by omega)
    have hg3 : ∀ (ρ : Type) (K : Option ρ), ogd (nI (o j)) 12 K = K := fun ρ K => ogd_ok (by omega) (by omega)
    have hg4 : ∀ (ρ : Type) (K : Option ρ), ogd (nI (16 + o j)) 76 K = K := fun ρ K => ogd_ok (by omega) (by omega)
    rw [e, if_neg hne, if_neg hne, za16]
    simp only [hg3, hg4]
    rw [zcl (show o j < 2 ^ 31 by omega), zcl (show 16 + o j < 2 ^ 31 by omega), hn _ hoj]
    have hX0 : ((zA near o k &&& (((1 : Int32) <<< (nI (o j) &&& 31)) ^^^ (-1 : Int32))) &&& ((near (o j)) ^^^ (-1 : Int32))) = zXn near (zA near o k) (o j) := rfl
    rw [hX0]
    by_cases hz : zXn near (zA near o k) (o j) = 0
    · right
      refine ⟨?_, ?_, ?_⟩
      · rintro ⟨v, hv, ev, nv⟩
        rw [e, zeq (by omega) (by omega)] at ev
        rw [← ev] at nv
        exact nv hz
      · rw [if_pos hz, nI_1]
      · rw [if_pos hz, nI_1]
        rfl
    · left
      refine ⟨⟨o j, by omega, e, hz⟩, ?_, ?_⟩
      · rw [if_neg hz, (hX k hk).1]
      · rw [if_neg hz]
theorem fault_ok (hN : N ≤ 12) (ho : ∀ k, k < N → o k < N) (hX : ∀ k, k < N → ord k = nI (o k) ∧ earl k = zsn o k) {st sea : zF} (h0 : st 0 = nI N) (hn : ∀ i, i < N → st (16 + i) = near i) (hM : ∀ k, k < N → sea k = nI (o k)) (l f w : Int32) (nr asd : zF) : ∃ r, fX7_fault ord earl (nI N) l f w near = some r ∧ olp (fX9_faultNow_s9 st nr asd sea) oFu ((0 : Int32), (0 : Int32)) = some (r, nr, asd, sea) ∧ (r = -1 → ∀ k, k < N → ¬ zbad near o k) := by
  have hs := fun k (hk : k < N) => faultS_ok hN ho hX h0 hn hM hk l f w nr asd
  unfold fX7_fault
  by_cases hall : ∀ k, k < N → ¬ zbad near o k
  · refine ⟨-1, ?_, ?_, fun _ => hall⟩
    · refine zloop1 N (by omega) (fun k hk => ?_) ?_
      · rcases hs k hk with ⟨hb, -⟩ | ⟨-, e, -⟩
        · exact absurd hb (hall k hk)
        · exact e
      · unfold fX7_fault_s2 fX7_fault_b2
        rw [if_pos (by rw [zle (by omega) (by omega)]; omega)]
    · refine zloop N (fun k => zsn o k) 0 (Nat.zero_le _) (by omega) (fun k _ hk => ?_) ?_
      · rcases hs k hk with ⟨hb, -⟩ | ⟨-, -, e⟩
        · exact absurd hb (hall k hk)
        · exact e
      · unfold fX9_faultNow_s9 fX9_faultNow_b9
        dsimp only
        rw [h0, if_pos (by rw [zle (by omega) (by omega)]; omega)]
  · obtain ⟨q, hq⟩ : ∃ q, q < N ∧ zbad near o q := by
      apply Classical.byContradiction
      intro hn
      exact hall (fun k hk hb => hn ⟨k, hk, hb⟩)
    obtain ⟨k, ⟨hk, hb⟩, hmin⟩ := pk_least (fun q => q < N ∧ zbad near o q) ⟨q, hq⟩
    have hoN := ho k hk
    rcases hs k hk with ⟨-, e1, e2⟩ | ⟨hnb, -⟩
    · refine ⟨nI (o k), ?_, ?_, fun h => absurd h (zne1 (by omega))⟩
      · refine zloop1 k (by omega) (fun j hj => ?_) e1
        rcases hs j (by omega) with ⟨hb2, -⟩ | ⟨-, e, -⟩
        · exact absurd ⟨by omega, hb2⟩ (hmin j hj)
        · exact e
      · refine zloop k (fun k => zsn o k) 0 (Nat.zero_le _) (by omega) (fun j _ hj => ?_) e2
        rcases hs j (by omega) with ⟨hb2, -⟩ | ⟨-, -, e⟩
        · exact absurd ⟨by omega, hb2⟩ (hmin j hj)
        · exact e
    · exact absurd hb hnb
def zmxN (f : Nat → Nat) : Nat → Nat
  | 0 => 0
  | k + 1 => if zmxN f k < f k then f k else zmxN f k
theorem zmxN_le {f : Nat → Nat} {B : Nat} : ∀ k, (∀ j, j < k → f j ≤ B) → zmxN f k ≤ B
  | 0, _ => Nat.zero_le _
  | k + 1, h => by
    have := zmxN_le k (fun j hj => h j (by omega))
    have := h k (by omega)
    rw [zmxN]
    split <;> omega
theorem zmxN_ge {f : Nat → Nat} : ∀ k j, j < k → f j ≤ zmxN f k
  | 0, j, h => absurd h (Nat.not_lt_zero j)
  | k + 1, j, h => by
    rw [zmxN]
    by_cases hjk : j = k
    · subst hjk
      split <;> omega
    · have := zmxN_ge (f := f) k j (by omega)
      split <;> omega
def zmc (P : Nat → Bool) (f : Nat → Nat) : Nat → Nat
  | 0 => 0
  | X + 1 => if P X = true ∧ zmc P f X < f X then f X else zmc P f X
theorem zmc_le {P : Nat → Bool} {f : Nat → Nat} {B : Nat} : ∀ k, (∀ j, j < k → P j = true → f j ≤ B) → zmc P f k ≤ B
  | 0, _ => Nat.zero_le _
  | k + 1, h => by
    have h1 := zmc_le k (fun j hj => h j (by omega))
    rw [zmc]
    by_cases hc : P k = true ∧ zmc P f k < f k
    · rw [if_pos hc]
      exact h k (by omega) hc.1
    · rw [if_neg hc]
      exact h1
theorem zmc_ge {P : Nat → Bool} {f : Nat → Nat} : ∀ k j, j < k → P j = true → f j ≤ zmc P f k
  | 0, j, h, _ => absurd h (Nat.not_lt_zero j)
  | k + 1, j, h, hP => by
    rw [zmc]
    by_cases hjk : j = k
    · subst hjk
      by_cases hc : P j = true ∧ zmc P f j < f j
      · rw [if_pos hc]
        exact Nat.le_refl _
      · rw [if_neg hc]
        apply Classical.byContradiction
        intro hn
        exact hc ⟨hP, by omega⟩
    · have := zmc_ge (f := f) k j (by omega) hP
      by_cases hc : P k = true ∧ zmc P f k < f k
      · rw [if_pos hc]
        omega
      · rw [if_neg hc]
        exact this
theorem cliqueX_ok (hN : N ≤ 12) (ho : ∀ k, k < N → o k < N) (hX : ∀ k, k < N → ord k = nI (o k) ∧ earl k = zsn o k) (hs : ∀ i, i < N → zsub 12 (near i)) (l f w : Int32) : fX7_clique ord earl (nI N) l f w near = some (nI (zmxN (fun k => 1 + zcnt (zA near o k)) N)) := by
  unfold fX7_clique
  have hle : ∀ k, zmxN (fun k => 1 + zcnt (zA near o k)) k ≤ 13 := fun k => zmxN_le k (fun j _ => by have := zcnt_le (zA near o j); omega)
  refine ob1_of (zloop (f := fX7_clique_s4 (nI N) ord earl l f w near) (r := nI (zmxN (fun k => 1 + zcnt (zA near o k)) N)) N (fun k => nI (zmxN (fun k => 1 + zcnt (zA near o k)) k)) 0 (Nat.zero_le _) (by omega) ?_ ?_) rfl
  · intro k _ hk
    have h1 := hle k
    have h2 := zcnt_le (zA near o k)
    have e1 : (1 : Int32) + nI (zcnt (zA near o k)) = nI (1 + zcnt (zA near o k)) := nI_add 1 _
    unfold fX7_clique_s4 fX7_clique_b4
    dsimp only
    rw [if_neg (by rw [zle (by omega) (by omega)]; omega), ahead_ok hN ho hX hk, ob1_some, bitCount_ok (show zsub 12 (zA near o k) from zsub_and (hs _ (ho k hk)) _), ob1_some, onm_i, e1, nI_1, zmxN]
    by_cases hc : zmxN (fun k => 1 + zcnt (zA near o k)) k < 1 + zcnt (zA near o k)
    · rw [if_pos (by rw [zlt (by omega) (by omega)]; exact hc), if_pos hc]
    · rw [if_neg (by rw [zlt (by omega) (by omega)]; exact hc), if_neg hc]
  · unfold fX7_clique_s4 fX7_clique_b4
    dsimp only
    rw [if_pos (by rw [zle (by omega) (by omega)]; omega)]
def zcq (N : Nat) (near : zF) (x : Int32) (n : Nat) : Bool := (List.range n).all (fun i => !bt x i || decide (zXn near x i = 0))
theorem zcq_s (N : Nat) (near : zF) (x : Int32) (n : Nat) : zcq N near x (n + 1) = (zcq N near x n && (!bt x n || decide (zXn near x n = 0))) := by
  unfold zcq
  rw [List.range_succ, List.all_append]
  simp
theorem zcq_f {x : Int32} {n : Nat} (h : zcq N near x n = false) : ∀ m, n ≤ m → zcq N near x m = false := by
  intro m hm
  obtain ⟨q, rfl⟩ : ∃ q, m = n + q := ⟨m - n, by omega⟩
  clear hm
  induction q with
  | zero => exact h
  | succ q ih => rw [← Nat.add_assoc, zcq_s, ih, Bool.false_and]
def z10 (b : Bool) : Int32 := if b = true then 1 else 0
theorem cliqueI_ok (hN : N ≤ 12) {st : zF} (h0 : st 0 = nI N) (hn : ∀ i, i < N → st (16 + i) = near i) (x : Int32) : olp (fX9_cliqueNow_s31 st x) oFu ((0 : Int32), (1 : Int32)) = some (z10 (zcq N near x N)) := by
  obtain ⟨r, e, h⟩ := olp_gen (f := fX9_cliqueNow_s31 st x) (fun (r : Int32) => r = z10 (zcq N near x N)) (fun i t => t = (nI i, z10 (zcq N near x i))) N (fun i t hi ht => by
    subst ht
    unfold fX9_cliqueNow_s31 fX9_cliqueNow_b31
    dsimp only
    rw [h0, if_neg (by rw [zle (by omega) (by omega)]; omega)]
    cases hq : zcq N near x i with
    | false =>
      right
      refine ⟨0, by rw [if_pos (show z10 false = 0 from rfl)]; rfl, ?_⟩
      rw [zcq_f hq N (by omega)]
      rfl
    | true =>
      left
      refine ⟨(nI (i + 1), z10 (zcq N near x (i + 1))), ?_, rfl⟩
      have hX0 : ((x &&& (((1 : Int32) <<< (nI i &&& 31)) ^^^ (-1 : Int32))) &&& ((near i) ^^^ (-1 : Int32))) = zXn near x i := rfl
      rw [if_neg (show ¬ z10 true = 0 by decide), has_ok x (by omega), ob1_some, za16, ogd_ok (by omega) (by omega), zcl (by omega), hn i hi, hX0, nI_1, zcq_s, hq]
      cases hb : bt x i with
      | false => rfl
      | true =>
        by_cases hz : zXn near x i = 0
        · rw [if_neg (by decide), if_pos hz, decide_eq_true hz]
          rfl
        · rw [if_neg (by decide), if_neg hz, decide_eq_false hz]
          rfl) (fun t ht => by
    subst ht
    refine ⟨_, ?_, rfl⟩
    unfold fX9_cliqueNow_s31 fX9_cliqueNow_b31
    dsimp only
    rw [h0, if_pos (by rw [zle (by omega) (by omega)]; omega)]) oFu 0 ((0 : Int32), (1 : Int32)) (Nat.zero_le _) (oFu_big (by omega)) rfl
  rw [e, h]
theorem z2N : ∀ n, n < 13 → (1 : Int32) <<< (nI n &&& 31) = nI (2 ^ n) := by decide +kernel
theorem z2L : ∀ n, n < 13 → 2 ^ n ≤ 4096 := by decide +kernel
theorem cliqueM_ok (hN : N ≤ 12) {st : zF} (h0 : st 0 = nI N) (hn : ∀ i, i < N → st (16 + i) = near i) : olp (fX9_cliqueNow_s14 st) oFu ((0 : Int32), (0 : Int32)) = some (nI (zmc (fun X => zcq N near (nI X) N) (fun X => zcnt (nI X)) (2 ^ N))) := by
  have h2 := z2L N (by omega)
  have hle : ∀ k, zmc (fun X => zcq N near (nI X) N) (fun X => zcnt (nI X)) k ≤ 12 := fun k => zmc_le k (fun j _ _ => zcnt_le _)
  refine zloop (2 ^ N) (fun X => nI (zmc (fun X => zcq N near (nI X) N) (fun X => zcnt (nI X)) X)) 0 (Nat.zero_le _) (by omega) ?_ ?_
  · intro X _ hX
    have h3 := hle X
    have h4 := zcnt_le (nI X)
    unfold fX9_cliqueNow_s14 fX9_cliqueNow_b14
    dsimp only
    rw [h0, z2N N (by omega), if_neg (by rw [zle (by omega) (by omega)]; omega), cliqueI_ok hN h0 hn, ob1_some, nI_1, zmc]
    cases hq : zcq N near (nI X) N with
    | false =>
      rw [if_pos (show z10 false = 0 from rfl), if_neg (by simp)]
    | true =>
      rw [if_neg (show ¬ z10 true = 0 by decide), sizeOf_ok, ob1_some, ob1_some]
      by_cases hc : zmc (fun X => zcq N near (nI X) N) (fun X => zcnt (nI X)) X < zcnt (nI X)
      · rw [if_neg (by rw [zle (by omega) (by omega)]; omega), if_pos ⟨rfl, hc⟩]
      · rw [if_pos (by rw [zle (by omega) (by omega)]; omega), if_neg (fun q => hc q.2)]
  · unfold fX9_cliqueNow_s14 fX9_cliqueNow_b14
    dsimp only
    rw [h0, z2N N (by omega), if_pos (by rw [zle (by omega) (by omega)]; omega)]
theorem znatS (hN : N ≤ 12) {X : Nat} (h : X < 2 ^ N) : zsub N (nI X) := by
  intro i hi hb
  have h2 := z2L N (by omega)
  have e : bt (nI X) i = X.testBit i := by
    show (BitVec.ofNat 32 X).getLsbD i = _
    rw [BitVec.getLsbD_ofNat, decide_eq_true hi, Bool.true_and]
  rw [e] at hb
  apply Classical.byContradiction
  intro hn
  have h3 : 2 ^ N ≤ 2 ^ i := Nat.pow_le_pow_right (by omega) (by omega)
  rw [Nat.testBit_lt_two_pow (Nat.lt_of_lt_of_le h h3)] at hb
  cases hb
theorem zA_bt {k : Nat} (hN : N ≤ 12) (ho : ∀ k, k < N → o k < N) (hk : k < N) {i : Nat} (hi : i < 32) : bt (zA near o k) i = true ↔ bt (near (o k)) i = true ∧ ∃ j, j < k ∧ o j = i := by
  unfold zA
  rw [b_and, Bool.and_eq_true, zsn_bt hi k (fun j hj => by have := ho j (by omega); omega)]
theorem zpeo (hN : N ≤ 12) (ho : ∀ k, k < N → o k < N) (hsym : ∀ i j, i < N → j < N → bt (near i) j = bt (near j) i) (hnb : ∀ k, k < N → ¬ zbad near o k) : ∀ n k, k < n → k < N → ∀ a b, a < 32 → b < 32 → bt (zA near o k) a = true → bt (zA near o k) b = true → a ≠ b → bt (near a) b = true := by
  intro n
  induction n with
  | zero => intro k hk; omega
  | succ n ih =>
    intro k hkn hk a b ha hb h1 h2 hab
    have h1' := (zA_bt hN ho hk ha).mp h1
    have h2' := (zA_bt hN ho hk hb).mp h2
    obtain ⟨-, ja, hja, ea⟩ := h1'
    obtain ⟨-, jb, hjb, eb⟩ := h2'
    have haN : a < N := by rw [← ea]; exact ho ja (by omega)
    have hbN : b < N := by rw [← eb]; exact ho jb (by omega)
    rcases zla_ok (o := o) (A := zA near o k) k with ⟨e, hno⟩ | ⟨j, hj, e, hbj, hlater⟩
    · have := hno ja hja
      rw [ea, h1] at this
      cases this
    · have hoj := ho j (by omega)
      have hz : zXn near (zA near o k) (o j) = 0 := by
        apply Classical.byContradiction
        intro hn
        exact hnb k hk ⟨o j, by omega, e, hn⟩
      rw [zXn_0 (by omega)] at hz
      have key : ∀ i m, i < 32 → m < k → o m = i → bt (zA near o k) i = true → i ≠ o j → bt (zA near o j) i = true := by
        intro i m hi hm em hbi hne
        rw [zA_bt hN ho (by omega) hi]
        refine ⟨hz i hi hbi hne, m, ?_, em⟩
        apply Classical.byContradiction
        intro hn
        by_cases hmj : m = j
        · exact hne (by rw [← em, hmj])
        · have := hlater m (by omega) hm
          rw [em, hbi] at this
          cases this
      by_cases hja2 : a = o j
      · rw [hja2]
        exact hz b hb h2 (fun q => hab (by rw [hja2, q]))
      · by_cases hjb2 : b = o j
        · rw [hsym a b haN hbN, hjb2]
          exact hz a ha h1 hja2
        · exact ih j (by omega) (by omega) a b ha hb (key a ja ha hja ea h1 hja2) (key b jb hb hjb eb h2 hjb2) hab
theorem clique_eq (hN : N ≤ 12) (ho : ∀ k, k < N → o k < N) (honto : ∀ i, i < N → ∃ k, k < N ∧ o k = i) (hs : ∀ i, i < N → zsub N (near i)) (hsym : ∀ i j, i < N → j < N → bt (near i) j = bt (near j) i) (hirr : ∀ i, i < N → bt (near i) i = false) (hnb : ∀ k, k < N → ¬ zbad near o k) : zmxN (fun k => 1 + zcnt (zA near o k)) N = zmc (fun X => zcq N near (nI X) N) (fun X => zcnt (nI X)) (2 ^ N) := by
  have hcq : ∀ x, zcq N near x N = true ↔ ∀ i, i < N → bt x i = true → ∀ j, j < 32 → bt x j = true → j ≠ i → bt (near i) j = true := by
    intro x
    unfold zcq
    rw [List.all_eq_true]
    constructor
    · intro h i hi hb
      have := h i (List.mem_range.mpr hi)
      rw [hb] at this
      simp only [Bool.not_true, Bool.false_or, decide_eq_true_eq] at this
      exact (zXn_0 (by omega)).mp this
    · intro h i hi
      have hi := List.mem_range.mp hi
      cases hb : bt x i with
      | false => rfl
      | true =>
        simp only [Bool.not_true, Bool.false_or, decide_eq_true_eq]
        exact (zXn_0 (by omega)).mpr (h i hi hb)
  have hsubA : ∀ k, k < N → zsub N (zA near o k) := fun k hk => zsub_and (hs _ (ho k hk)) _
  have hcA : ∀ k, k < N → zcnt (zA near o k ||| (1 : Int32) <<< (nI (o k) &&& 31)) = 1 + zcnt (zA near o k) := by
    intro k hk
    have hok := ho k hk
    have hf : bt (zA near o k) (o k) = false := by
      unfold zA
      rw [b_and, hirr _ hok, Bool.false_and]
    rw [zcnt_or (by omega) hf]
    omega
  apply Nat.le_antisymm
  · refine zmxN_le N (fun k hk => ?_)
    have hok := ho k hk
    have hQs : zsub N (zA near o k ||| (1 : Int32) <<< (nI (o k) &&& 31)) := by
      intro i hi hb
      rw [b_or, zb_one (by omega) hi, Bool.or_eq_true, decide_eq_true_eq] at hb
      rcases hb with hb | hb
      · exact hsubA k hk i hi hb
      · omega
    obtain ⟨X, hX, eX⟩ := znatN hQs
    have hbQ : ∀ i, i < 32 → (bt (nI X) i = true ↔ bt (zA near o k) i = true ∨ i = o k) := by
      intro i hi
      rw [← eX, b_or, zb_one (by omega) hi, Bool.or_eq_true, decide_eq_true_eq]
    have hP : zcq N near (nI X) N = true := by
      rw [hcq]
      intro i hi hb j hj hbj hne
      rw [hbQ i (by omega)] at hb
      rw [hbQ j hj] at hbj
      rcases hb with hb | rfl
      · rcases hbj with hbj | rfl
        · exact zpeo hN ho hsym hnb (k + 1) k (by omega) hk i j (by omega) hj hb hbj (fun q => hne q.symm)
        · rw [hsym i (o k) hi hok]
          exact ((zA_bt hN ho hk (by omega)).mp hb).1
      · rcases hbj with hbj | hbj
        · exact ((zA_bt hN ho hk hj).mp hbj).1
        · exact absurd hbj hne
    have := zmc_ge (P := fun X => zcq N near (nI X) N) (f := fun X => zcnt (nI X)) (2 ^ N) X hX hP
    try dsimp only at this
    rw [← eX, hcA k hk] at this
    exact this
  · refine zmc_le (2 ^ N) (fun X hX hP => ?_)
    have hXs := znatS hN hX
    try dsimp only at hP ⊢
    rw [hcq] at hP
    rcases zla_ok (o := o) (A := nI X) N with ⟨e, hno⟩ | ⟨j, hj, e, hbj, hlater⟩
    · have : nI X = 0 := by
        rw [zb_z]
        intro i hi
        cases hb : bt (nI X) i with
        | false => rfl
        | true =>
          obtain ⟨m, hm, em⟩ := honto i (hXs i hi hb)
          have := hno m hm
          rw [em, hb] at this
          cases this
      rw [this, zcnt_0]
      exact Nat.zero_le _
    · have hoj := ho j hj
      have h1 : zcnt (nI X) ≤ zcnt (zA near o j ||| (1 : Int32) <<< (nI (o j) &&& 31)) := by
        refine zcn_mono 12 (fun i hi hb => ?_)
        rw [b_or, zb_one (by omega) (by omega), Bool.or_eq_true, decide_eq_true_eq]
        by_cases hio : i = o j
        · exact Or.inr hio
        · left
          rw [zA_bt hN ho hj (by omega)]
          refine ⟨hP (o j) hoj hbj i (by omega) hb hio, ?_⟩
          obtain ⟨m, hm, em⟩ := honto i (hXs i (by omega) hb)
          refine ⟨m, ?_, em⟩
          apply Classical.byContradiction
          intro hn
          by_cases hmj : m = j
          · exact hio (by rw [← em, hmj])
          · have := hlater m (by omega) hm
            rw [em, hb] at this
            cases this
      rw [hcA j hj] at h1
      have := zmxN_ge (f := fun k => 1 + zcnt (zA near o k)) N j hj
      try dsimp only at this
      omega
end FT
