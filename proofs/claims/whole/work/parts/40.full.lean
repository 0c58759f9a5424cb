/-! contracts over the whole object: the frame -/
theorem zCW_frame {l : Launch} {y : MethodName} {wl : List Cond} {rm : Room} {D : va_G} {tys : List (ClassId × FieldType)} {av : List Value} {w w2 F : va_W} {ret : Option Value} (hC : zCW l y wl rm D tys av w w2 ret) : zCW l y wl rm D tys av (w ++ F) (w2 ++ F) ret := by
  intro sz p e h1 h2 h3 s m args below hf ha hPc hk
  obtain ⟨hav, hsz, hP, hK, hD⟩ := hPc
  have hP' := zP_iff.mp hP
  have hD' := zD_iff.mp hD
  rw [List.map_append, List.nodup_append] at hD'
  obtain ⟨⟨n1, n2, n3⟩, -⟩ := hD'
  obtain ⟨n, o, a1, a2, a3, ⟨⟨ho, hP2, hD2⟩, hz, hF⟩, L, hL1, hL2⟩ := hC sz p e h1 h2 h3 s m args below hf ha ⟨hav, hsz, zP_iff.mpr (fun q hq => hP' q (List.mem_append_left _ hq)), hK, zD_iff.mpr ⟨n1, fun _ _ => trivial⟩⟩ hk
  have mono : ∀ q, va_A w sz q → va_A (w ++ F) sz q := by
    intro q hq
    rcases zA_iff.mp hq with ⟨x, hx, rfl⟩ | hq
    · exact zA_iff.mpr (Or.inl ⟨x, List.mem_append_left _ hx, rfl⟩)
    · exact zA_iff.mpr (Or.inr hq)
  have hout : ∀ x ∈ F, x.1 < s.heap.size ∧ ¬ va_A w sz x.1 := by
    intro x hx
    have hlt := (hP' x (List.mem_append_right _ hx)).lt
    refine ⟨hlt, fun hq => ?_⟩
    rcases zA_iff.mp hq with ⟨z, hz1, hz2⟩ | hq
    · exact n3 _ (List.mem_map_of_mem (f := Prod.fst) hz1) _ (List.mem_map_of_mem (f := Prod.fst) hx) hz2
    · omega
  have hD2' := zD_iff.mp hD2
  refine ⟨n, o, a1, a2, a3, ⟨⟨ho, ?_, ?_⟩, hz, fun q g1 g2 => hF q g1 (fun z => g2 (mono q z))⟩, L, hL1, fun q hq => mono _ (hL2 q hq)⟩
  · exact zP_iff.mpr fun q hq => (List.mem_append.mp hq).elim (fun h => zP_iff.mp hP2 q h) (fun h => (hP' q (List.mem_append_right _ h)).kept (hF q.1 (hout q h).1 (hout q h).2))
  · rw [zD_iff, List.map_append, List.nodup_append]
    refine ⟨⟨hD2'.1, n2, fun a ha b hb hab => ?_⟩, fun q hq => (List.mem_append.mp hq).elim (fun h => mono _ (hD2'.2 q h)) (fun h => zA_iff.mpr (Or.inl ⟨q, List.mem_append_right _ h, rfl⟩))⟩
    obtain ⟨x, hx, rfl⟩ := List.mem_map.mp ha
    obtain ⟨z, hz1, rfl⟩ := List.mem_map.mp hb
    exact (hout z hz1).2 (hab ▸ hD2'.2 x hx)
theorem zCR_toW {l : Launch} {y : MethodName} {wl : List Cond} {rm : Room} {D : va_G} {tys : List (ClassId × FieldType)} {av : List Value} {w : va_W} {r : Int32} (hC : zCR l y wl rm D tys av w r) : zCW l y wl rm D tys av w w (some (.int r)) := by
  intro sz p e h1 h2 h3 s m args below hf ha hPc hk
  obtain ⟨hav, hsz, hP, hK, hD⟩ := hPc
  obtain ⟨n, o, a1, a2, a3, ⟨ho, hh⟩, L, hL1, hL2⟩ := hC p e h1 h2 h3 s m args below hf ha ⟨hav, hP, hK⟩ hk
  exact ⟨n, o, a1, a2, a3, ⟨⟨ho, by rw [hh]; exact hP, hD.self⟩, by rw [hh]; exact Nat.le_refl _, fun q _ _ => by rw [hh]⟩, L, hL1, fun q hq => (hL2 q hq).elim⟩
theorem zfullA {α : Type} {E S R T : List α} (n : Nat) (is : List Nat) (hn : E.length = n) (hp : is.Perm (List.range n)) (hs : is.map (fun i => E[i]?) = (S ++ R).map some) : (S ++ (R ++ T)).Perm (E ++ T) := by
  rw [← List.append_assoc]
  exact (zperm_of is (by rw [hn]; exact hp) hs).append_right T
theorem zfullB {α : Type} {E S R T : List α} (n : Nat) (is : List Nat) (hn : E.length = n) (hp : is.Perm (List.range n)) (hs : is.map (fun i => E[i]?) = (S ++ R).map some) : ((S ++ T) ++ R).Perm (E ++ T) :=
  (zperm3 S T R).trans ((zperm_of is (by rw [hn]; exact hp) hs).append_right T)
theorem zfullC {α : Type} {E S R : List α} (n : Nat) (is : List Nat) (hn : E.length = n) (hp : is.Perm (List.range n)) (hs : is.map (fun i => E[i]?) = (S ++ R).map some) : (S ++ R).Perm E := zperm_of is (by rw [hn]; exact hp) hs
abbrev zF : Type := Nat → Int32
/-- what the object holds: what is so; the ring's next and count; the book; two images; the rows beside; the seed; the ring -/
abbrev zXV : Type := zSV × (Int32 × Int32) × (Int32 × zF × zF) × (Int32 × Int32 × zSV) × (Int32 × Int32 × zSV) × (Int32 × zF) × (zF × zF × Int32 × zF) × (Int32 × zF) × Int32 × (Nat → zSV)
/-- what the reference holds: deeds, seed, entries; st, past, images, isKept, bookItem, bookClass; newRow, isApart, isNow, aside, pairs, far, isMet, searched -/
abbrev zMV : Type := (Int32 × Int32 × Int32) × (zF × zF × zF × zF × zF × zF) × (zF × zF × zF × zF × zF × zF × zF × zF)
