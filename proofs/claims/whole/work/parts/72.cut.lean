/-! ===== rows that hold each item once; splitting ===== -/
theorem zph : ∀ (n : Nat) (a : List Nat), a.Nodup → (∀ x ∈ a, x < n) → a.length ≤ n
  | 0, a, _, h => by
    cases a with
    | nil => simp
    | cons x xs => exact absurd (h x List.mem_cons_self) (Nat.not_lt_zero x)
  | n + 1, a, hn, h => by
    by_cases hm : n ∈ a
    · have h1 := zph n (a.erase n) (hn.erase n) (fun x hx => by
        have h2 := h x (List.mem_of_mem_erase hx)
        have h3 : x ≠ n := fun e => by
          subst e
          exact hn.not_mem_erase hx
        omega)
      have h4 := List.length_erase_of_mem hm
      omega
    · have h1 := zph n a hn (fun x hx => by
        have h2 := h x hx
        have h3 : x ≠ n := fun e => by
          subst e
          exact hm hx
        omega)
      omega
/-- the least item of a set -/
def zlst (x : Int32) : Nat := ((List.range 32).find? (fun i => bt x i)).getD 32
theorem zlst_ok {x : Int32} (h : ¬ x = 0) : zlst x < 32 ∧ bt x (zlst x) = true ∧ ∀ j, j < zlst x → bt x j = false := by
  obtain ⟨i, hi, hb⟩ := zb_nz.mp h
  unfold zlst
  cases hf : (List.range 32).find? (fun i => bt x i) with
  | none =>
    have := List.find?_eq_none.mp hf i (List.mem_range.mpr hi)
    exact absurd hb this
  | some k =>
    obtain ⟨h1, as, bs, h2, h3⟩ := List.find?_eq_some_iff_append.mp hf
    have hk : k < 32 := by
      have := List.mem_of_find?_eq_some hf
      exact List.mem_range.mp this
    refine ⟨hk, h1, fun j hj => ?_⟩
    simp only [Option.getD_some] at hj
    have hmem : j ∈ as := by
      have hl : as.length = k := by
        have e := congrArg (fun l : List Nat => l[as.length]?) h2
        simp at e
        have hlt : as.length < 32 := by
          have := congrArg List.length h2
          simp at this
          omega
        rw [List.getElem?_range hlt] at e
        simpa using e
      have e := congrArg (fun l : List Nat => l[j]?) h2
      rw [List.getElem?_range (by omega), List.getElem?_append_left (by omega)] at e
      exact List.mem_of_getElem? e.symm
    have := h3 j hmem
    simpa using this
theorem zlst_uniq {x : Int32} {k : Nat} (h1 : k < 32) (h2 : bt x k = true) (h3 : ∀ j, j < k → bt x j = false) : zlst x = k := by
  have hx : ¬ x = 0 := zb_nz.mpr ⟨k, h1, h2⟩
  obtain ⟨a1, a2, a3⟩ := zlst_ok hx
  rcases Nat.lt_trichotomy (zlst x) k with h | h | h
  · rw [h3 _ h] at a2; cases a2
  · exact h
  · rw [a3 _ h] at h2; cases h2
def zdj (x y : Int32) : Prop := ∀ i, i < 32 → bt x i = true → bt y i = false
def zok (N : Nat) (Ls : List Int32) : Prop := (∀ x ∈ Ls, (¬ x = 0) ∧ ∀ i, i < 32 → bt x i = true → i < N) ∧ Ls.Pairwise zdj
theorem zok_len {N : Nat} {Ls : List Int32} (h : zok N Ls) : Ls.length ≤ N := by
  have h1 : (Ls.map zlst).Nodup := by
    unfold List.Nodup
    rw [List.pairwise_map]
    refine h.2.imp_of_mem ?_
    intro a b ha hb hab e
    obtain ⟨a1, a2, -⟩ := zlst_ok (h.1 a ha).1
    obtain ⟨b1, b2, -⟩ := zlst_ok (h.1 b hb).1
    rw [← e, hab _ a1 a2] at b2
    cases b2
  have h2 := zph N (Ls.map zlst) h1 (fun x hx => by
    obtain ⟨y, hy, rfl⟩ := List.mem_map.mp hx
    obtain ⟨a1, a2, -⟩ := zlst_ok (h.1 y hy).1
    exact (h.1 y hy).2 _ a1 a2)
  simpa using h2
def zcut (s x : Int32) : List Int32 := (if x &&& s = 0 then [] else [x &&& s]) ++ (if x &&& (s ^^^ (-1)) = 0 then [] else [x &&& (s ^^^ (-1))])
def zspl (s : Int32) (Ls : List Int32) : List Int32 := Ls.flatMap (zcut s)
theorem zspl_app (s : Int32) (A B : List Int32) : zspl s (A ++ B) = zspl s A ++ zspl s B := List.flatMap_append
theorem zspl_cons (s x : Int32) (B : List Int32) : zspl s (x :: B) = zcut s x ++ zspl s B := List.flatMap_cons
theorem zand_not {s x : Int32} (h : x &&& s = 0) : x &&& (s ^^^ (-1)) = x := by
  apply b_ext
  intro i hi
  rw [b_and, zb_not s hi]
  have := zb_z.mp h i hi
  rw [b_and] at this
  cases hx : bt x i <;> cases hs : bt s i <;> simp_all
theorem zand_self {s x : Int32} (h : x &&& (s ^^^ (-1)) = 0) : x &&& s = x := by
  apply b_ext
  intro i hi
  rw [b_and]
  have := zb_z.mp h i hi
  rw [b_and, zb_not s hi] at this
  cases hx : bt x i <;> cases hs : bt s i <;> simp_all
theorem zcut_in {s x : Int32} (hx : ¬ x = 0) (h : x &&& s = 0) : zcut s x = [x] := by
  unfold zcut
  rw [if_pos h, zand_not h, if_neg hx]
  rfl
theorem zcut_out {s x : Int32} (hx : ¬ x = 0) (h : x &&& (s ^^^ (-1)) = 0) : zcut s x = [x] := by
  unfold zcut
  rw [if_pos h, zand_self h, if_neg hx]
  rfl
theorem zcut_two {s x : Int32} (h1 : ¬ x &&& s = 0) (h2 : ¬ x &&& (s ^^^ (-1)) = 0) : zcut s x = [x &&& s, x &&& (s ^^^ (-1))] := by
  unfold zcut
  rw [if_neg h1, if_neg h2]
  rfl
theorem zcut_mem {s x y : Int32} (h : y ∈ zcut s x) : (¬ y = 0) ∧ ∀ i, i < 32 → bt y i = true → bt x i = true := by
  unfold zcut at h
  rcases List.mem_append.mp h with h | h
  · by_cases h0 : x &&& s = 0
    · rw [if_pos h0] at h; simp at h
    · rw [if_neg h0, List.mem_singleton] at h
      subst h
      refine ⟨h0, fun i hi hb => ?_⟩
      rw [b_and] at hb
      simp at hb
      exact hb.1
  · by_cases h0 : x &&& (s ^^^ (-1)) = 0
    · rw [if_pos h0] at h; simp at h
    · rw [if_neg h0, List.mem_singleton] at h
      subst h
      refine ⟨h0, fun i hi hb => ?_⟩
      rw [b_and] at hb
      simp at hb
      exact hb.1
theorem zcut_dj (s x : Int32) : (zcut s x).Pairwise zdj := by
  unfold zcut
  by_cases h1 : x &&& s = 0
  · rw [if_pos h1]
    by_cases h2 : x &&& (s ^^^ (-1)) = 0
    · rw [if_pos h2]; simp
    · rw [if_neg h2]; simp
  · rw [if_neg h1]
    by_cases h2 : x &&& (s ^^^ (-1)) = 0
    · rw [if_pos h2]; simp
    · rw [if_neg h2]
      simp only [List.cons_append, List.nil_append, List.pairwise_cons, List.mem_singleton, forall_eq]
      refine ⟨fun i hi hb => ?_, by simp⟩
      rw [b_and] at hb ⊢
      rw [zb_not s hi]
      simp at hb
      simp [hb.2]
theorem zok_spl {N : Nat} {s : Int32} : ∀ {A B : List Int32}, zok N (A ++ B) → zok N (A ++ zspl s B) := by
  intro A B h
  refine ⟨fun y hy => ?_, ?_⟩
  · rcases List.mem_append.mp hy with hy | hy
    · exact h.1 y (List.mem_append_left _ hy)
    · obtain ⟨x, hx, hyx⟩ := List.mem_flatMap.mp hy
      obtain ⟨h1, h2⟩ := zcut_mem hyx
      exact ⟨h1, fun i hi hb => (h.1 x (List.mem_append_right _ hx)).2 i hi (h2 i hi hb)⟩
  · obtain ⟨p1, p2, p3⟩ := List.pairwise_append.mp h.2
    rw [List.pairwise_append]
    refine ⟨p1, ?_, fun a ha y hy => ?_⟩
    · clear h p3 p1
      induction B with
      | nil => simp [zspl]
      | cons x xs ih =>
        rw [zspl_cons, List.pairwise_append]
        obtain ⟨q1, q2⟩ := List.pairwise_cons.mp p2
        refine ⟨zcut_dj s x, ih q2, fun a ha y hy => ?_⟩
        obtain ⟨z, hz, hyz⟩ := List.mem_flatMap.mp hy
        intro i hi hb
        have h1 := q1 z hz i hi ((zcut_mem ha).2 i hi hb)
        cases hc : bt y i with
        | false => rfl
        | true => rw [(zcut_mem hyz).2 i hi hc] at h1; cases h1
    · obtain ⟨z, hz, hyz⟩ := List.mem_flatMap.mp hy
      intro i hi hb
      have h1 := p3 a ha z hz i hi hb
      cases hc : bt y i with
      | false => rfl
      | true => rw [(zcut_mem hyz).2 i hi hc] at h1; cases h1
theorem cut_ok {N : Nat} (hN : N ≤ 12) {c : Int32} {f : Nat → Int32} {Ls : List Int32} (h : rowC c f Ls) (hok : zok N Ls) (s : Int32) : ∃ c' f', fX5_cutBy s c f = some (c', f') ∧ rowC c' f' (zspl s Ls) := by
  have hl := h.2.1
  unfold fX5_cutBy
  have hlp : ∃ r, olp (fX5_cutBy_s7 s) oFu (c - 1, c, f) = some r ∧ rowC r.1 r.2 (zspl s Ls) := by
    refine olp_gen (fun (r : Int32 × (Nat → Int32)) => rowC r.1 r.2 (zspl s Ls)) (fun i (st : Int32 × Int32 × (Nat → Int32)) => i ≤ Ls.length ∧ st.1 = nI (Ls.length - i) + (-1) ∧ rowC st.2.1 st.2.2 (Ls.take (Ls.length - i) ++ zspl s (Ls.drop (Ls.length - i)))) Ls.length ?_ ?_ oFu 0 _ (Nat.zero_le _) (oFu_big (by omega)) ⟨Nat.zero_le _, ?_, ?_⟩
    · rintro i ⟨x2, qc, qf⟩ hi ⟨h1, h2, h3⟩
      left
      obtain ⟨j, hj⟩ : ∃ j, Ls.length - i = j + 1 := ⟨Ls.length - i - 1, by omega⟩
      have hj2 : Ls.length - (i + 1) = j := by omega
      have hjl : j < Ls.length := by omega
      simp only [hj] at h2 h3
      simp only [hj2]
      rw [pk_m1] at h2
      obtain ⟨x, hx⟩ : ∃ x, Ls[j]? = some x := ⟨_, List.getElem?_eq_getElem hjl⟩
      have hxm : x ∈ Ls := List.mem_of_getElem? hx
      have hx0 : ¬ x = 0 := (hok.1 x hxm).1
      have ht : Ls.take (j + 1) = Ls.take j ++ [x] := by
        rw [List.take_add_one, hx]
        rfl
      have hd : Ls.drop j = x :: Ls.drop (j + 1) := by
        rw [List.drop_eq_getElem_cons hjl]
        congr 1
        rw [List.getElem?_eq_getElem hjl] at hx
        exact Option.some.inj hx
      have htl : (Ls.take j).length = j := by rw [List.length_take]; omega
      rw [ht] at h3
      have hl3 := h3.2.1
      have hqx : qf j = x := h3.2.2 j x (by
        rw [List.append_assoc, List.getElem?_append_right (by omega), htl]
        simp)
      have hnew : zok N (Ls.take j ++ zspl s (Ls.drop j)) := zok_spl (by rw [List.take_append_drop]; exact hok)
      have hnl := zok_len hnew
      subst h2
      unfold fX5_cutBy_s7 fX5_cutBy_b7
      dsimp only
      rw [if_neg (zn0 (by omega)), ogd_ok (by omega) (by omega), ogd_ok (by omega) (by omega), zcl (by omega)]
      simp only [onm, hqx]
      rw [hd, zspl_cons] at hnl ⊢
      by_cases c1 : x &&& s = 0
      · rw [if_pos c1]
        refine ⟨_, rfl, by omega, rfl, ?_⟩
        rw [zcut_in hx0 c1]
        simpa using h3
      rw [if_neg c1]
      by_cases c2 : x &&& (s ^^^ (-1)) = 0
      · rw [if_pos c2]
        refine ⟨_, rfl, by omega, rfl, ?_⟩
        rw [zcut_out hx0 c2]
        simpa using h3
      rw [if_neg c2]
      rw [zcut_two c1 c2] at hnl ⊢
      simp only [List.length_append, List.length_cons, List.length_nil] at hnl hl3
      have hlen := h3.1
      simp only [List.length_append, List.length_cons, List.length_nil] at hlen
      generalize hZ : zspl s (Ls.drop (j + 1)) = Z at *
      rw [hlen, if_neg (by rw [show (12 : Int32) = nI 12 from rfl, zle (by omega) (by omega)]; omega)]
      rw [open_ok (by omega) (by omega)]
      simp only [ob2]
      rw [ogd_ok (by omega) (by omega), nI_1, ogd_ok (by omega) (by omega), zcl (by omega)]
      refine ⟨_, rfl, by omega, rfl, ?_, ?_, ?_⟩
      · simp only [List.length_append, List.length_cons, List.length_nil]
        congr 1
        omega
      · simp only [List.length_append, List.length_cons, List.length_nil]
        omega
      · intro k y hy
        have hk := (List.getElem?_eq_some_iff.mp hy).1
        simp only [List.length_append, List.length_cons, List.length_nil] at hk
        simp only [upd]
        by_cases k1 : k = j + 1
        · subst k1
          rw [List.getElem?_append_right (by omega), htl] at hy
          simp at hy
          simp [hy]
        rw [if_neg k1]
        by_cases k2 : k = j
        · subst k2
          rw [List.getElem?_append_right (by omega), htl] at hy
          simp at hy
          simp [hy]
        rw [if_neg k2]
        by_cases k3 : k < j
        · rw [if_neg (by omega)]
          refine h3.2.2 k y ?_
          rw [List.getElem?_append_left (by omega)] at hy
          rw [List.append_assoc, List.getElem?_append_left (by omega)]
          exact hy
        · rw [if_pos (by omega)]
          refine h3.2.2 (k - 1) y ?_
          rw [List.getElem?_append_right (by omega), htl] at hy
          rw [List.append_assoc, List.getElem?_append_right (by omega), htl]
          obtain ⟨q, rfl⟩ : ∃ q, k = j + 2 + q := ⟨k - j - 2, by omega⟩
          rw [show j + 2 + q - j = q + 2 by omega] at hy
          rw [show j + 2 + q - 1 - j = q + 1 by omega]
          simpa using hy
    · rintro ⟨x2, qc, qf⟩ ⟨-, h2, h3⟩
      simp only [Nat.sub_self] at h2 h3
      subst h2
      unfold fX5_cutBy_s7 fX5_cutBy_b7
      dsimp only
      rw [if_pos (by decide)]
      exact ⟨_, rfl, by simpa using h3⟩
    · show c - 1 = nI (Ls.length - 0) + (-1)
      rw [h.1, Nat.sub_zero]
      generalize nI Ls.length = z
      rw [Int32.sub_eq_add_neg]
    · simpa [zspl] using h
  obtain ⟨r, e, hr⟩ := hlp
  rw [e]
  exact ⟨r.1, r.2, rfl, hr⟩
