/-! ===== apart: the shortest words ===== -/
def zst (go : Nat → Nat → Nat) (c v : Nat) : Nat := 12 * go c (v / 12) + go c (v % 12)
def zbd (fin : Int32) (v : Nat) : Prop := bt fin (v / 12) ≠ bt fin (v % 12)
/-- q is reached from p0 by a word of d letters -/
def zrc (go : Nat → Nat → Nat) (L p0 : Nat) : Nat → Nat → Prop
  | 0, p => p = p0
  | d + 1, p => ∃ q c, zrc go L p0 d q ∧ c < L ∧ p = zst go c q
/-- told apart by a word of at most r letters -/
def zsp (go : Nat → Nat → Nat) (L : Nat) (fin : Int32) : Nat → Nat → Prop
  | 0, p => zbd fin p
  | r + 1, p => zsp go L fin r p ∨ ∃ c, c < L ∧ zsp go L fin r (zst go c p)
section AP
variable {go : Nat → Nat → Nat} {L : Nat} {fin : Int32}
theorem zrc_front {p c : Nat} (hc : c < L) : ∀ d q, zrc go L (zst go c p) d q → zrc go L p (d + 1) q
  | 0, _, h => ⟨p, c, rfl, hc, h⟩
  | d + 1, _, ⟨q, c2, h1, h2, h3⟩ => ⟨q, c2, zrc_front hc d q h1, h2, h3⟩
theorem zsp_rc : ∀ r p, zsp go L fin r p → ∃ d q, d ≤ r ∧ zrc go L p d q ∧ zbd fin q
  | 0, p, h => ⟨0, p, Nat.le_refl _, rfl, h⟩
  | r + 1, p, h => by
    rcases h with h | ⟨c, hc, h⟩
    · obtain ⟨d, q, h1, h2, h3⟩ := zsp_rc r p h
      exact ⟨d, q, by omega, h2, h3⟩
    · obtain ⟨d, q, h1, h2, h3⟩ := zsp_rc r _ h
      exact ⟨d + 1, q, by omega, zrc_front hc d q h2, h3⟩
theorem rc_zsp {p : Nat} : ∀ d q r, zrc go L p d q → zsp go L fin r q → zsp go L fin (d + r) p
  | 0, q, r, h1, h2 => by
    have h1 : q = p := h1
    rw [Nat.zero_add, ← h1]
    exact h2
  | d + 1, q, r, ⟨q2, c, h1, hc, e⟩, h2 => by
    have h3 : zsp go L fin (r + 1) q2 := Or.inr ⟨c, hc, by rw [← e]; exact h2⟩
    have := rc_zsp d q2 (r + 1) h1 h3
    rw [show d + 1 + r = d + (r + 1) by omega]
    exact this
theorem zsp_mono {p r : Nat} (h : zsp go L fin r p) : ∀ s, zsp go L fin (r + s) p
  | 0 => h
  | s + 1 => Or.inl (zsp_mono h s)
/-- what apart answers -/
def zAns (go : Nat → Nat → Nat) (L : Nat) (fin : Int32) (p : Nat) (x : Int32) : Prop := (∃ r, x = nI r ∧ zsp go L fin r p ∧ ∀ s, s < r → ¬ zsp go L fin s p) ∨ (x = -1 ∧ ∀ r, ¬ zsp go L fin r p)
theorem zAns_uniq {p : Nat} {x y : Int32} (hx : zAns go L fin p x) (hy : zAns go L fin p y) : x = y := by
  rcases hx with ⟨r, rfl, h1, h2⟩ | ⟨rfl, h1⟩
  · rcases hy with ⟨s, rfl, h3, h4⟩ | ⟨rfl, h3⟩
    · rcases Nat.lt_trichotomy r s with h | h | h
      · exact absurd h1 (h4 r h)
      · rw [h]
      · exact absurd h3 (h2 s h)
    · exact absurd h1 (h3 r)
  · rcases hy with ⟨s, rfl, h3, h4⟩ | ⟨rfl, h3⟩
    · exact absurd h3 (h1 s)
    · rfl
/-- the classes told apart by words of at most r letters -/
def zIt (N L : Nat) (go : Nat → Nat → Nat) (fin : Int32) : Nat → List Int32
  | 0 => zspl fin [zall N]
  | r + 1 => zcuts (zS3 N L go (zIt N L go fin r)) (zIt N L go fin r)
variable {N : Nat}
theorem zIt_ok (hN1 : 1 ≤ N) (hN : N ≤ 12) : ∀ r, zok N (zIt N L go fin r) ∧ ∀ i, i < N → zpos (zIt N L go fin r) i ≠ none
  | 0 => ⟨zspl_ok (zall_ok hN1 hN), fun i hi h => by
      have h := (zspl_none (zall_ok hN1 hN)).mp h
      rw [zall_pos hN hi] at h
      cases h⟩
  | r + 1 => by
    obtain ⟨h1, h2⟩ := zIt_ok hN1 hN r
    exact ⟨zcuts_ok _ h1, fun i hi h => h2 i hi ((zcuts_none _ h1).mp h)⟩
theorem zIt_same (hN1 : 1 ≤ N) (hN : N ≤ 12) (hgo : ∀ c i, c < L → i < N → go c i < N) : ∀ r i j, i < N → j < N → (zsame (zIt N L go fin r) i j ↔ ¬ zsp go L fin r (12 * i + j))
  | 0, i, j, hi, hj => by
    have e1 : (12 * i + j) / 12 = i := by omega
    have e2 : (12 * i + j) % 12 = j := by omega
    show zsame (zspl fin [zall N]) i j ↔ ¬ zbd fin (12 * i + j)
    unfold zbd
    rw [zsame_spl (by omega) (by omega), e1, e2, Decidable.not_not]
    constructor
    · intro h
      exact h.2
    · intro h
      refine ⟨⟨zall N, by simp, ?_, ?_⟩, h⟩
      · unfold zall
        rw [zb_all hN (by omega), decide_eq_true hi]
      · unfold zall
        rw [zb_all hN (by omega), decide_eq_true hj]
  | r + 1, i, j, hi, hj => by
    have e1 : (12 * i + j) / 12 = i := by omega
    have e2 : (12 * i + j) % 12 = j := by omega
    obtain ⟨h1, h2⟩ := zIt_ok (L := L) (go := go) (fin := fin) hN1 hN r
    show zsame (zcuts (zS3 N L go (zIt N L go fin r)) (zIt N L go fin r)) i j ↔ ¬ (zsp go L fin r (12 * i + j) ∨ ∃ c, c < L ∧ zsp go L fin r (zst go c (12 * i + j)))
    rw [zsame_cuts (by omega) (by omega), zS3_ag hN h1 h2 hgo hi hj, zIt_same hN1 hN hgo r i j hi hj]
    constructor
    · rintro ⟨a, b⟩ (h | ⟨c, hc, h⟩)
      · exact a h
      · have := (zIt_same hN1 hN hgo r (go c i) (go c j) (hgo c i hc hi) (hgo c j hc hj)).mp (b c hc)
        apply this
        unfold zst at h
        rw [e1, e2] at h
        exact h
    · intro h
      refine ⟨fun q => h (Or.inl q), fun c hc => ?_⟩
      rw [zIt_same hN1 hN hgo r (go c i) (go c j) (hgo c i hc hi) (hgo c j hc hj)]
      intro q
      apply h
      refine Or.inr ⟨c, hc, ?_⟩
      unfold zst
      rw [e1, e2]
      exact q
theorem zIt_stab {r : Nat} (h : zIt N L go fin (r + 1) = zIt N L go fin r) : ∀ s, zIt N L go fin (r + s) = zIt N L go fin r
  | 0 => rfl
  | s + 1 => by
    have ih := zIt_stab h s
    show zcuts (zS3 N L go (zIt N L go fin (r + s))) (zIt N L go fin (r + s)) = _
    rw [ih]
    exact h
theorem shortX_ok (hN1 : 1 ≤ N) (hN : N ≤ 12) (hL : L ≤ 3) (swk : Int32) {slds : zF} (hgo : ∀ c i, c < L → i < N → go c i < N ∧ slds (c * 12 + i) = nI (go c i)) {i j : Nat} (hi : i < N) (hj : j < N) (bc : Int32) (bf : zF) (qc : Int32) (qf : zF) : ∃ x b1 b2 c f, fX4_shortestWordApart (nI i) (nI j) bc bf (nI N) (nI L) fin swk slds qc qf = some (x, b1, b2, c, f) ∧ zAns go L fin (12 * i + j) x := by
  have hgo1 : ∀ c i, c < L → i < N → go c i < N := fun c i hc hi => (hgo c i hc hi).1
  obtain ⟨c0, f0, e0, hr0⟩ := gather_ok (zall N) qc qf
  obtain ⟨c1, f1, e1, hr1⟩ := cut_ok hN hr0 (zall_ok hN1 hN) fin
  have hiok := zIt_ok (L := L) (go := go) (fin := fin) hN1 hN
  unfold fX4_shortestWordApart fX6_all
  rw [ob1_some]
  have key := olp_gen (f := fX4_shortestWordApart_s19 (nI i) (nI j) (nI N) (nI L) fin swk slds) (fun (r : Int32 × Int32 × zF × Int32 × zF) => zAns go L fin (12 * i + j) r.1) (fun r t => ∃ bc bf qc qf, t = (nI r, bc, bf, qc, qf) ∧ rowC qc qf (zIt N L go fin r) ∧ (∀ s, s < r → ¬ zsp go L fin s (12 * i + j)) ∧ r < (zIt N L go fin r).length) 12 ?_ ?_ oFu 0 ((0 : Int32), bc, bf, c1, f1) (Nat.zero_le _) (oFu_big (by omega)) ⟨bc, bf, c1, f1, rfl, hr1, fun s h => absurd h (Nat.not_lt_zero s), zcov_len hN1 (hiok 0).2⟩
  · obtain ⟨⟨x, b1, b2, c, f⟩, e, h⟩ := key
    refine ⟨x, b1, b2, c, f, ?_, h⟩
    exact ob2_of e0 (ob2_of e1 e)
  · rintro r t hr ⟨bc, bf, qc, qf, rfl, h1, h2, h3⟩
    obtain ⟨k1, k2⟩ := hiok r
    have hps : zpI (zpos (zIt N L go fin r) i) = zpI (zpos (zIt N L go fin r) j) ↔ zsame (zIt N L go fin r) i j := rowM_same hN (row := fun i => zpI (zpos (zIt N L go fin r) i)) (fun i hi => rfl) k1 k2 hi hj
    have hsm := zIt_same (fin := fin) hN1 hN hgo1 r i j hi hj
    unfold fX4_shortestWordApart_s19 fX4_shortestWordApart_b19
    dsimp only
    rw [if_neg (by rw [show (12 : Int32) = nI 12 from rfl, zle (by omega) (by omega)]; omega), place_ok h1 (show i < 32 by omega), ob1_some, place_ok h1 (show j < 32 by omega), ob1_some]
    by_cases hs : zsame (zIt N L go fin r) i j
    · rw [if_pos (hps.mpr hs)]
      have hns := hsm.mp hs
      obtain ⟨b1, b2, eb, hb⟩ := copy_ok h1 bc bf
      obtain ⟨c, g, ec, hc⟩ := cutLetters_ok hN hL fin swk hgo hb h1 k1
      have hl1 := hb.2.1
      have hl2 := hc.2.1
      rw [eb, ob2_some, ec, ob2_some]
      rcases zcuts_len (zS3 N L go (zIt N L go fin r)) k1 with e | ⟨hl, -⟩
      · right
        rw [if_pos (by rw [hc.1, hb.1, e])]
        refine ⟨_, rfl, Or.inr ⟨rfl, fun s hsp => ?_⟩⟩
        have h5 := zIt_stab (r := r) e s
        have h6 := zIt_same (fin := fin) hN1 hN hgo1 (r + s) i j hi hj
        rw [h5] at h6
        have h7 := zsp_mono hsp r
        rw [Nat.add_comm] at h7
        exact h6.mp hs h7
      · left
        rw [if_neg (by rw [hc.1, hb.1, zeq (by omega) (by omega)]; omega)]
        refine ⟨_, rfl, b1, b2, c, g, by rw [nI_1], hc, fun s hs => ?_, ?_⟩
        · by_cases hsr : s = r
          · rw [hsr]
            exact hns
          · exact h2 s (by omega)
        · show r + 1 < (zcuts (zS3 N L go (zIt N L go fin r)) (zIt N L go fin r)).length
          omega
    · right
      rw [if_neg (fun q => hs (hps.mp q))]
      refine ⟨_, rfl, Or.inl ⟨r, rfl, ?_, h2⟩⟩
      apply Classical.byContradiction
      intro q
      exact hs (hsm.mpr q)
  · rintro t ⟨bc, bf, qc, qf, rfl, h1, h2, h3⟩
    have := zok_len (hiok 12).1
    omega
/-! the reference: pairs in the order in which they are met -/
def zQ (prs far met : zF) (Q : List (Nat × Nat)) : Prop := (∀ k e, Q[k]? = some e → prs k = nI e.1 ∧ far k = nI e.2) ∧ ∀ v, v < 144 → (met v = 0 ↔ v ∉ Q.map Prod.fst)
def zgood (N L : Nat) (go : Nat → Nat → Nat) (p0 : Nat) (Q : List (Nat × Nat)) : Prop := (Q.map Prod.fst).Nodup ∧ ∀ e ∈ Q, e.1 / 12 < N ∧ e.1 % 12 < N ∧ zrc go L p0 e.2 e.1
theorem zgood_len (hN : N ≤ 12) {p0 : Nat} {Q : List (Nat × Nat)} (h : zgood N L go p0 Q) : Q.length ≤ 144 := by
  have := zph 144 (Q.map Prod.fst) h.1 (fun x hx => by
    obtain ⟨e, he, rfl⟩ := List.mem_map.mp hx
    have := (h.2 e he).1
    omega)
  rw [List.length_map] at this
  exact this
theorem zQ_app {prs far met : zF} {R : List (Nat × Nat)} (h : zQ prs far met R) {t d : Nat} (ht : t < 144) : zQ (upd prs R.length (nI t)) (upd far R.length (nI d)) (upd met t 1) (R ++ [(t, d)]) := by
  refine ⟨fun k e he => ?_, fun v hv => ?_⟩
  · by_cases hk : k < R.length
    · rw [List.getElem?_append_left hk] at he
      rw [pk_un (by omega), pk_un (by omega)]
      exact h.1 k e he
    · have hl := (List.getElem?_eq_some_iff.mp he).1
      rw [List.length_append, List.length_singleton] at hl
      have hkk : k = R.length := by omega
      subst hkk
      rw [List.getElem?_append_right (Nat.le_refl _), Nat.sub_self] at he
      have he : some (t, d) = some e := he
      cases he
      rw [pk_us, pk_us]
      exact ⟨rfl, rfl⟩
  · rw [List.map_append, List.mem_append]
    by_cases hvt : v = t
    · subst hvt
      rw [pk_us]
      constructor
      · intro q
        exact absurd q n10
      · intro q
        exact absurd (Or.inr (by simp)) q
    · rw [pk_un hvt, h.2 v hv]
      constructor
      · rintro a (b | b)
        · exact a b
        · simp at b
          exact hvt b
      · intro a b
        exact a (Or.inl b)
theorem zgood_app {p0 : Nat} {R : List (Nat × Nat)} (h : zgood N L go p0 R) {t d : Nat} (hn : t ∉ R.map Prod.fst) (h1 : t / 12 < N) (h2 : t % 12 < N) (h3 : zrc go L p0 d t) : zgood N L go p0 (R ++ [(t, d)]) := by
  refine ⟨?_, fun e he => ?_⟩
  · rw [List.map_append]
    refine List.pairwise_append.mpr ⟨h.1, List.pairwise_singleton _ _, fun a ha b hb => ?_⟩
    rintro rfl
    simp at hb
    rw [hb] at ha
    exact hn ha
  · rcases List.mem_append.mp he with he | he
    · exact h.2 e he
    · rw [List.mem_singleton] at he
      subst he
      exact ⟨h1, h2, h3⟩
theorem zgood_room (hN : N ≤ 12) {p0 : Nat} {R : List (Nat × Nat)} (h : zgood N L go p0 R) {t : Nat} (hn : t ∉ R.map Prod.fst) (ht : t < 144) : R.length < 144 := by
  have := zph 144 (t :: R.map Prod.fst) (List.pairwise_cons.mpr ⟨fun a ha => by rintro rfl; exact hn ha, h.1⟩) (fun x hx => by
    rcases List.mem_cons.mp hx with rfl | hx
    · exact ht
    · obtain ⟨e, he, rfl⟩ := List.mem_map.mp hx
      have := (h.2 e he).1
      omega)
  rw [List.length_cons, List.length_map] at this
  omega
theorem inn_ok (hN : N ≤ 12) (hL : L ≤ 3) {st : zF} (h1 : st 1 = nI L) (hgo : ∀ c i, c < L → i < N → go c i < N ∧ st (28 + 3 * i + c) = nI (go c i)) {p0 : Nat} {Q : List (Nat × Nat)} {k p d : Nat} (hk : Q[k]? = some (p, d)) (hU : ∀ e ∈ Q, e.2 ≤ d + 1) (hg : zgood N L go p0 Q) {prs far met : zF} (hq : zQ prs far met Q) : ∃ E prs2 far2 met2, olp (fX9_apart_s143 st (nI (p / 12)) (nI (p % 12)) (nI k)) oFu ((0 : Int32), nI Q.length, prs, far, met) = some (nI (Q ++ E).length, prs2, far2, met2) ∧ zQ prs2 far2 met2 (Q ++ E) ∧ zgood N L go p0 (Q ++ E) ∧ (∀ e ∈ E, e.2 = d + 1) ∧ ∀ c, c < L → ∃ e ∈ Q ++ E, e.1 = zst go c p ∧ e.2 ≤ d + 1 := by
  have hkl := (List.getElem?_eq_some_iff.mp hk).1
  have hQl := zgood_len hN hg
  obtain ⟨gp1, gp2, gp3⟩ := hg.2 (p, d) (List.mem_of_getElem? hk)
  dsimp only at gp1 gp2 gp3
  have key := olp_gen (f := fX9_apart_s143 st (nI (p / 12)) (nI (p % 12)) (nI k)) (fun (r : Int32 × zF × zF × zF) => ∃ E, r.1 = nI (Q ++ E).length ∧ zQ r.2.1 r.2.2.1 r.2.2.2 (Q ++ E) ∧ zgood N L go p0 (Q ++ E) ∧ (∀ e ∈ E, e.2 = d + 1) ∧ ∀ c, c < L → ∃ e ∈ Q ++ E, e.1 = zst go c p ∧ e.2 ≤ d + 1) (fun c t => ∃ E prs2 far2 met2, t = (nI c, nI (Q ++ E).length, prs2, far2, met2) ∧ zQ prs2 far2 met2 (Q ++ E) ∧ zgood N L go p0 (Q ++ E) ∧ (∀ e ∈ E, e.2 = d + 1) ∧ ∀ b, b < c → ∃ e ∈ Q ++ E, e.1 = zst go b p ∧ e.2 ≤ d + 1) L ?_ ?_ oFu 0 ((0 : Int32), nI Q.length, prs, far, met) (Nat.zero_le _) (oFu_big (by omega)) ⟨[], prs, far, met, by rw [List.append_nil]; rfl, by rw [List.append_nil]; exact hq, by rw [List.append_nil]; exact hg, fun e he => by simp at he, fun b hb => absurd hb (Nat.not_lt_zero b)⟩
  · obtain ⟨⟨x, p2, f2, m2⟩, e, E, hx, a1, a2, a3, a4⟩ := key
    have hx : x = nI (Q ++ E).length := hx
    subst hx
    exact ⟨E, p2, f2, m2, e, a1, a2, a3, a4⟩
  · rintro c t hc ⟨E, prs2, far2, met2, rfl, a1, a2, a3, a4⟩
    left
    obtain ⟨g1, g2⟩ := hgo c (p / 12) hc gp1
    obtain ⟨g3, g4⟩ := hgo c (p % 12) hc gp2
    have hkE : (Q ++ E)[k]? = some (p, d) := by rw [List.getElem?_append_left hkl]; exact hk
    have hfk := (a1.1 k _ hkE).2
    dsimp only at hfk
    have hto : 12 * go c (p / 12) + go c (p % 12) = zst go c p := rfl
    have ht : zst go c p < 144 := by unfold zst; omega
    have ht1 : zst go c p / 12 < N := by unfold zst; omega
    have ht2 : zst go c p % 12 < N := by unfold zst; omega
    have hlE := zgood_len hN a2
    unfold fX9_apart_s143 fX9_apart_b143
    dsimp only
    rw [h1, if_neg (by rw [zle (by omega) (by omega)]; omega), zgo, zgo, ogd_ok (show 28 + 3 * (p / 12) + c < 76 by omega) (by omega), ogd_ok (show 28 + 3 * (p % 12) + c < 76 by omega) (by omega), zcl (show 28 + 3 * (p / 12) + c < 2 ^ 31 by omega), zcl (show 28 + 3 * (p % 12) + c < 2 ^ 31 by omega), g2, g4, z12, onm_i, hto]
    have hg5 : ∀ (ρ : Type) (K : Option ρ), ogd (nI (zst go c p)) 144 K = K := fun ρ K => ogd_ok ht (by omega)
    have hg6 : ∀ (ρ : Type) (K : Option ρ), ogd (nI k) 144 K = K := fun ρ K => ogd_ok (by omega) (by omega)
    simp only [hg5, hg6]
    rw [zcl (show zst go c p < 2 ^ 31 by omega)]
    by_cases hm : met2 (zst go c p) = 0
    · have hnm := (a1.2 _ ht).mp hm
      have hroom := zgood_room hN a2 hnm ht
      have hg7 : ∀ (ρ : Type) (K : Option ρ), ogd (nI (Q ++ E).length) 144 K = K := fun ρ K => ogd_ok hroom (by omega)
      simp only [hg7]
      rw [if_pos hm, zcl (show (Q ++ E).length < 2 ^ 31 by omega), zcl (show k < 2 ^ 31 by omega), hfk, nI_1, nI_1, nI_1]
      have hap : Q ++ (E ++ [(zst go c p, d + 1)]) = (Q ++ E) ++ [(zst go c p, d + 1)] := (List.append_assoc _ _ _).symm
      refine ⟨_, rfl, E ++ [(zst go c p, d + 1)], upd prs2 (Q ++ E).length (nI (zst go c p)), upd far2 (Q ++ E).length (nI (d + 1)), upd met2 (zst go c p) 1, ?_, ?_, ?_, fun e he => ?_, fun b hb => ?_⟩
      · rw [hap, List.length_append (as := Q ++ E), List.length_singleton]
      · rw [hap]
        exact zQ_app a1 ht
      · rw [hap]
        exact zgood_app a2 hnm ht1 ht2 ⟨p, c, gp3, hc, rfl⟩
      · rcases List.mem_append.mp he with he | he
        · exact a3 e he
        · rw [List.mem_singleton] at he
          rw [he]
      · rw [hap]
        by_cases hbc : b = c
        · subst hbc
          exact ⟨_, List.mem_append_right _ (List.mem_singleton.mpr rfl), rfl, Nat.le_refl _⟩
        · obtain ⟨e, he, x1, x2⟩ := a4 b (by omega)
          exact ⟨e, List.mem_append_left _ he, x1, x2⟩
    · rw [if_neg hm, nI_1]
      refine ⟨_, rfl, E, _, _, _, rfl, a1, a2, a3, fun b hb => ?_⟩
      by_cases hbc : b = c
      · subst hbc
        have hmem : zst go b p ∈ (Q ++ E).map Prod.fst := by
          apply Classical.byContradiction
          intro hn
          exact hm ((a1.2 _ ht).mpr hn)
        obtain ⟨e, he, ee⟩ := List.mem_map.mp hmem
        refine ⟨e, he, ee, ?_⟩
        rcases List.mem_append.mp he with he | he
        · exact hU e he
        · rw [a3 e he]
          exact Nat.le_refl _
      · exact a4 b (by omega)
  · rintro t ⟨E, prs2, far2, met2, rfl, a1, a2, a3, a4⟩
    refine ⟨(nI (Q ++ E).length, prs2, far2, met2), ?_, E, rfl, a1, a2, a3, a4⟩
    unfold fX9_apart_s143 fX9_apart_b143
    dsimp only
    rw [h1, if_pos (by rw [zle (by omega) (by omega)]; omega)]
/-- what is so as the pairs of A have been looked at, those of B not yet -/
def zB (N L : Nat) (go : Nat → Nat → Nat) (fin : Int32) (p0 : Nat) (A B : List (Nat × Nat)) : Prop := zgood N L go p0 (A ++ B) ∧ (A ++ B).Pairwise (fun a b => a.2 ≤ b.2) ∧ (∀ a ∈ B, ∀ e ∈ A ++ B, e.2 ≤ a.2 + 1) ∧ (∀ e ∈ A, (¬ zbd fin e.1) ∧ ∀ c, c < L → ∃ f ∈ A ++ B, f.1 = zst go c e.1 ∧ f.2 ≤ e.2 + 1) ∧ (p0, 0) ∈ A ++ B
theorem zB_end {p0 : Nat} {A : List (Nat × Nat)} (h : zB N L go fin p0 A []) : zAns go L fin p0 (-1) := by
  obtain ⟨h1, h2, h3, h4, h5⟩ := h
  rw [List.append_nil] at h4 h5
  refine Or.inr ⟨rfl, fun r hr => ?_⟩
  obtain ⟨d, q, -, hq, hb⟩ := zsp_rc r p0 hr
  have key : ∀ d q, zrc go L p0 d q → ∃ e ∈ A, e.1 = q := by
    intro d
    induction d with
    | zero =>
      intro q hq
      have hq : q = p0 := hq
      exact ⟨(p0, 0), h5, hq.symm⟩
    | succ d ih =>
      rintro q ⟨q2, c, b1, b2, b3⟩
      obtain ⟨e, he, e1⟩ := ih q2 b1
      obtain ⟨f, hf, e2, -⟩ := (h4 e he).2 c b2
      exact ⟨f, hf, by rw [e2, e1, b3]⟩
  obtain ⟨e, he, e1⟩ := key d q hq
  rw [← e1] at hb
  exact (h4 e he).1 hb
theorem zB_hit {p0 p d : Nat} {A B : List (Nat × Nat)} (h : zB N L go fin p0 A ((p, d) :: B)) (hb : zbd fin p) : zAns go L fin p0 (nI d) := by
  obtain ⟨h1, h2, h3, h4, h5⟩ := h
  have hmin : ∀ e ∈ A ++ (p, d) :: B, e.2 < d → e ∈ A := by
    intro e he hlt
    rcases List.mem_append.mp he with he | he
    · exact he
    · exfalso
      have hs := (List.pairwise_append.mp h2).2.1
      rcases List.mem_cons.mp he with rfl | he
      · dsimp only at hlt
        omega
      · have := (List.pairwise_cons.mp hs).1 e he
        dsimp only at this
        omega
  have key : ∀ n, n ≤ d → ∀ q, zrc go L p0 n q → ∃ e ∈ A ++ (p, d) :: B, e.1 = q ∧ e.2 ≤ n := by
    intro n
    induction n with
    | zero =>
      intro _ q hq
      have hq : q = p0 := hq
      exact ⟨(p0, 0), h5, hq.symm, Nat.le_refl _⟩
    | succ n ih =>
      rintro hn q ⟨q2, c, b1, b2, b3⟩
      obtain ⟨e, he, e1, e2⟩ := ih (by omega) q2 b1
      obtain ⟨f, hf, e3, e4⟩ := (h4 e (hmin e he (by omega))).2 c b2
      exact ⟨f, hf, by rw [e3, e1, b3], by omega⟩
  have hmem : (p, d) ∈ A ++ (p, d) :: B := List.mem_append_right _ (List.mem_cons_self)
  refine Or.inl ⟨d, rfl, ?_, fun s hs hsp => ?_⟩
  · have := rc_zsp (fin := fin) d p 0 (h1.2 _ hmem).2.2 hb
    exact this
  · obtain ⟨n, q, hn, hq, hbq⟩ := zsp_rc s p0 hsp
    obtain ⟨e, he, e1, e2⟩ := key n (by omega) q hq
    rw [← e1] at hbq
    exact (h4 e (hmin e he (by omega))).1 hbq
theorem zB_next {p0 p d : Nat} {A B E : List (Nat × Nat)} (h : zB N L go fin p0 A ((p, d) :: B)) (hb : ¬ zbd fin p) (hg : zgood N L go p0 ((A ++ (p, d) :: B) ++ E)) (hE : ∀ e ∈ E, e.2 = d + 1) (hs : ∀ c, c < L → ∃ e ∈ (A ++ (p, d) :: B) ++ E, e.1 = zst go c p ∧ e.2 ≤ d + 1) : zB N L go fin p0 (A ++ [(p, d)]) (B ++ E) := by
  obtain ⟨h1, h2, h3, h4, h5⟩ := h
  have e0 : (A ++ [(p, d)]) ++ (B ++ E) = (A ++ (p, d) :: B) ++ E := by simp
  have hU := h3 (p, d) (List.mem_cons_self)
  dsimp only at hU
  have hBd : ∀ a ∈ B, d ≤ a.2 := fun a ha => (List.pairwise_cons.mp (List.pairwise_append.mp h2).2.1).1 a ha
  refine ⟨?_, ?_, ?_, ?_, ?_⟩
  · rw [e0]
    exact hg
  · rw [e0]
    refine List.pairwise_append.mpr ⟨h2, ?_, fun a ha b hb => ?_⟩
    · refine List.pairwise_of_forall_mem_list ?_
      intro a ha b hb
      rw [hE a ha, hE b hb]
      exact Nat.le_refl _
    · rw [hE b hb]
      exact hU a ha
  · rw [e0]
    intro a ha e he
    have ha2 : d ≤ a.2 := by
      rcases List.mem_append.mp ha with ha | ha
      · exact hBd a ha
      · rw [hE a ha]
        omega
    rcases List.mem_append.mp he with he | he
    · have := hU e he
      omega
    · rw [hE e he]
      omega
  · rw [e0]
    intro e he
    rcases List.mem_append.mp he with he | he
    · obtain ⟨a1, a2⟩ := h4 e he
      refine ⟨a1, fun c hc => ?_⟩
      obtain ⟨f, hf, x1, x2⟩ := a2 c hc
      exact ⟨f, List.mem_append_left _ hf, x1, x2⟩
    · rw [List.mem_singleton] at he
      subst he
      exact ⟨hb, hs⟩
  · rw [e0]
    exact List.mem_append_left _ h5
theorem apartM_ok (hN : N ≤ 12) (hL : L ≤ 3) {st : zF} (h0 : st 0 = nI N) (h1 : st 1 = nI L) (h2 : st 2 = fin) (hgo : ∀ c i, c < L → i < N → go c i < N ∧ st (28 + 3 * i + c) = nI (go c i)) {i j : Nat} (hi : i < N) (hj : j < N) (d s e : Int32) (prs far met : zF) : ∃ x p2 f2 m2, fX9_apart (nI i) (nI j) d s e st prs far met = some (x, p2, f2, m2) ∧ zAns go L fin (12 * i + j) x := by
  have hfill : ∃ m1, olp (fX9_apart_s21) oFu ((0 : Int32), met) = some m1 ∧ ∀ v, v < 144 → m1 v = 0 := by
    refine olp_gen (f := fX9_apart_s21) (fun (r : zF) => ∀ v, v < 144 → r v = 0) (fun k t => ∃ g, t = (nI k, g) ∧ ∀ v, v < k → g v = 0) 144 ?_ ?_ oFu 0 ((0 : Int32), met) (Nat.zero_le _) (oFu_big (by omega)) ⟨met, rfl, fun v h => absurd h (Nat.not_lt_zero v)⟩
    · rintro k t hk ⟨g, rfl, h⟩
      left
      refine ⟨(nI (k + 1), upd g k 0), ?_, _, rfl, fun v hv => ?_⟩
      · unfold fX9_apart_s21 fX9_apart_b21
        dsimp only
        rw [if_neg (by rw [show (144 : Int32) = nI 144 from rfl, zle (by omega) (by omega)]; omega), ogd_ok (by omega) (by omega), zcl (by omega), nI_1]
      · by_cases hvk : v = k
        · subst hvk
          rw [pk_us]
        · rw [pk_un (by omega)]
          exact h v (by omega)
    · rintro t ⟨g, rfl, h⟩
      refine ⟨g, ?_, h⟩
      unfold fX9_apart_s21 fX9_apart_b21
      dsimp only
      rw [if_pos (by decide)]
  obtain ⟨m1, em, gm⟩ := hfill
  have hp144 : 12 * i + j < 144 := by omega
  have hd1 : (12 * i + j) / 12 = i := by omega
  have hd2 : (12 * i + j) % 12 = j := by omega
  unfold fX9_apart
  rw [isItem_in hi hN h0, ob1_some, if_neg n10, isItem_in hj hN h0, ob1_some, if_neg n10, em, ob1_some, pk_us, z12, ogd_ok hp144 (by omega), zcl (by omega)]
  have key := olp_gen (f := fX9_apart_s77 st) (fun (r : Int32 × zF × zF × zF) => zAns go L fin (12 * i + j) r.1) (fun k t => ∃ A B prs far met, t = (nI k, nI (A ++ B).length, prs, far, met) ∧ A.length = k ∧ zQ prs far met (A ++ B) ∧ zB N L go fin (12 * i + j) A B) 144 ?_ ?_ oFu 0 ((0 : Int32), (1 : Int32), upd prs 0 (nI (12 * i + j)), upd far 0 0, upd m1 (12 * i + j) 1) (Nat.zero_le _) (oFu_big (by omega)) ⟨[], [(12 * i + j, 0)], _, _, _, rfl, rfl, ?_, ?_⟩
  · obtain ⟨⟨x, p2, f2, m2⟩, ex, hx⟩ := key
    exact ⟨x, p2, f2, m2, ex, hx⟩
  · rintro k t hk ⟨A, B, prs, far, met, rfl, hA, hq, hB⟩
    have hlen := zgood_len hN hB.1
    cases B with
    | nil =>
      right
      refine ⟨(-1, prs, far, met), ?_, zB_end hB⟩
      unfold fX9_apart_s77 fX9_apart_b77
      dsimp only
      rw [if_pos (by rw [List.append_nil, hA, zle (by omega) (by omega)]; omega)]
    | cons e B =>
      obtain ⟨p, d⟩ := e
      have hl2 : (A ++ (p, d) :: B).length = k + (B.length + 1) := by rw [List.length_append, hA]; rfl
      have hkQ : (A ++ (p, d) :: B)[k]? = some (p, d) := by
        rw [List.getElem?_append_right (by omega), hA, Nat.sub_self]
        rfl
      obtain ⟨hpk, hfk⟩ := hq.1 k _ hkQ
      dsimp only at hpk hfk
      obtain ⟨gp1, gp2, gp3⟩ := hB.1.2 (p, d) (List.mem_of_getElem? hkQ)
      dsimp only at gp1 gp2 gp3
      have hdv : nI p / (12 : Int32) = nI (p / 12) := pk_div (a := p) (d := 12) (by omega) (by omega) (by omega)
      have hrm : nI p - nI (p / 12) * (12 : Int32) = nI (p % 12) := by
        rw [← hdv]
        exact pk_rem (a := p) (d := 12) (by omega) (by omega) (by omega)
      have hg1 : ∀ (ρ : Type) (K : Option ρ), ogd (nI k) 144 K = K := fun ρ K => ogd_ok (by omega) (by omega)
      have hstep : fX9_apart_s77 st (nI k, nI (A ++ (p, d) :: B).length, prs, far, met) = if (if bt fin (p / 12) = true then (1 : Int32) else 0) = (if bt fin (p % 12) = true then (1 : Int32) else 0) then (ob4 (olp (fX9_apart_s143 st (nI (p / 12)) (nI (p % 12)) (nI k)) oFu ((0 : Int32), nI (A ++ (p, d) :: B).length, prs, far, met)) (fun x3_10 prs_9 far_9 met_11 => (some (.inl (nI (k + 1), x3_10, prs_9, far_9, met_11))))) else some (.inr (nI d, prs, far, met)) := by
        unfold fX9_apart_s77 fX9_apart_b77
        dsimp only
        rw [if_neg (by rw [hl2, zle (by omega) (by omega)]; omega)]
        simp only [hg1, onm_i]
        rw [zcl (show k < 2 ^ 31 by omega), hpk, hdv, hrm, h2, has_ok _ (by omega), ob1_some, has_ok _ (by omega), ob1_some, hfk, nI_1]
      rw [hstep]
      by_cases hb : zbd fin p
      · right
        refine ⟨(nI d, prs, far, met), ?_, zB_hit hB hb⟩
        rw [if_neg]
        unfold zbd at hb
        cases b1 : bt fin (p / 12) <;> cases b2 : bt fin (p % 12) <;> simp [b1, b2] at hb ⊢
      · left
        obtain ⟨E, prs2, far2, met2, e1, a1, a2, a3, a4⟩ := inn_ok hN hL h1 hgo hkQ (hB.2.2.1 (p, d) (List.mem_cons_self)) hB.1 hq
        refine ⟨(nI (k + 1), nI ((A ++ (p, d) :: B) ++ E).length, prs2, far2, met2), ?_, A ++ [(p, d)], B ++ E, prs2, far2, met2, ?_, ?_, ?_, zB_next hB hb a2 a3 a4⟩
        · have hbe : bt fin (p / 12) = bt fin (p % 12) := by
            unfold zbd at hb
            exact Decidable.not_not.mp hb
          rw [hbe, if_pos rfl, e1, ob4_some]
        · rw [show (A ++ [(p, d)]) ++ (B ++ E) = (A ++ (p, d) :: B) ++ E by simp]
        · rw [List.length_append, hA]
          rfl
        · rw [show (A ++ [(p, d)]) ++ (B ++ E) = (A ++ (p, d) :: B) ++ E by simp]
          exact a1
  · rintro t ⟨A, B, prs, far, met, rfl, hA, hq, hB⟩
    have hlen := zgood_len hN hB.1
    cases B with
    | nil =>
      refine ⟨(-1, prs, far, met), ?_, zB_end hB⟩
      unfold fX9_apart_s77 fX9_apart_b77
      dsimp only
      rw [if_pos (by rw [List.append_nil, hA, zle (by omega) (by omega)]; omega)]
    | cons e B =>
      rw [List.length_append, List.length_cons] at hlen
      omega
  · have h := zQ_app (prs := prs) (far := far) (met := m1) (R := []) ⟨fun k e he => by simp at he, fun v hv => ⟨fun _ h => by simp at h, fun _ => gm v hv⟩⟩ (t := 12 * i + j) (d := 0) hp144
    exact h
  · refine ⟨⟨?_, fun e he => ?_⟩, ?_, fun a ha e he => ?_, fun e he => by simp at he, by simp⟩
    · exact List.pairwise_singleton _ _
    · rw [List.nil_append, List.mem_singleton] at he
      subst he
      dsimp only
      rw [hd1, hd2]
      exact ⟨hi, hj, rfl⟩
    · exact List.pairwise_singleton _ _
    · rw [List.mem_singleton] at ha
      rw [List.nil_append, List.mem_singleton] at he
      subst ha he
      omega
end AP
