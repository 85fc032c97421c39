theorem dist_ex {adj : Nat → Nat → Prop} {N g : Nat} (hg : g < N) : ∃ F, isDist adj N g F ∧ ∀ v, v < N → F v < N := by
  have : ∀ (m : Nat) (f : Nat → Int) (l : List Nat) (h : Nat), bfs adj N g f l h → h ≤ l.length → 2 * N + 1 ≤ l.length + h + m → ∃ F, isDist adj N g F ∧ ∀ v, v < N → F v < N := by
    intro m
    induction m with
    | zero =>
      intro f l h hb hl hm
      have := nodup_le _ l hb.1 hb.2.1
      omega
    | succ m ih =>
      intro f l h hb hl hm
      by_cases e : l.length ≤ h
      · exact ⟨f, bfs_end hb e⟩
      · have hh : h < l.length := by omega
        by_cases c : ∃ v, v < N ∧ adj l[h] v ∧ ¬ 0 ≤ f v
        · obtain ⟨v, v1, v2, v3⟩ := c
          exact ih (fun u => if u = v then f l[h] + 1 else f u) (l ++ [v]) h (bfs_add hb hh v1 v3 v2 (by simp) (fun u hu => if_neg hu)) (by simp; omega) (by simp; omega)
        · refine ih f l (h + 1) (bfs_next hb hh (fun v hv a => ?_)) (by omega) (by omega)
          by_cases q : 0 ≤ f v
          · exact q
          · exact absurd ⟨v, hv, a, q⟩ c
  exact this (2 * N + 1) (fun u => if u = g then 0 else -1) [g] 0 (bfs_start hg (by simp) (fun u _ hu => if_neg hu)) (by simp) (by omega)
def swS (μ ν : xM) : Prop := (∀ k, k ≠ 236 → ¬ (243 ≤ k ∧ k ≤ 246) → ν k = μ k) ∧ (∀ j, j ≠ 5 → j ≠ 6 → j ≠ 9 → j ≠ 10 → ν 236 j = μ 236 j)
def Sch0 (P now lat : List Nat) (ν : xM) : Prop :=
  ((ν 236 5 = 243 ∧ ν 236 6 = 244) ∨ (ν 236 5 = 244 ∧ ν 236 6 = 243)) ∧ ν 236 9 = now.length ∧ rowL (ν (ν 236 5).toNat) now ∧ ν 236 10 = lat.length ∧ rowL (ν (ν 236 6).toNat) lat
  ∧ (∀ x, x < 15625 → (inB (ν 245) x ↔ x ∈ P ∨ x ∈ now)) ∧ (P ++ now).Nodup ∧ (∀ x ∈ P ++ now, x < 15625)
  ∧ lat.Nodup ∧ (∀ x ∈ lat, x < 15625 ∧ inB (ν 246) x)
theorem Sch0.ly {P now lat : List Nat} {ν : xM} (h : Sch0 P now lat ν) : (lay (ν 236 5).toNat = (1, 15625, []) ∧ (ν 236 5).toNat < 281) ∧ (lay (ν 236 6).toNat = (1, 15625, []) ∧ (ν 236 6).toNat < 281) := by
  rcases h.1 with z | z <;> rw [z.1, z.2]
  · exact ⟨⟨lay_ab.1, by decide⟩, ⟨lay_ab.2, by decide⟩⟩
  · exact ⟨⟨lay_ab.2, by decide⟩, ⟨lay_ab.1, by decide⟩⟩
theorem Sch0.up {P now lat : List Nat} {ν : xM} (h : Sch0 P now lat ν) (h2 : ∀ x, x < 15625 → inB (ν 246) x → x ∈ lat ∨ x ∈ P ∨ x ∈ now) : Sch P now lat ν := by
  obtain ⟨p1, p2, p3, p4, p5, p6, p7, p8, p9, p10⟩ := h
  exact ⟨p1, p2, p3, p4, p5, p6, p7, p8, p9, p10, h2⟩
theorem s_putNow0 {ν : xM} {P now lat : List Nat} {x : Nat} {Q : xM → Prop} (h : Sch0 P now lat ν) (hx : x < 15625) (hqY : x ∈ P ∨ x ∈ now → Q ν)
    (hqN : ¬ (x ∈ P ∨ x ∈ now) → ∀ ω : xM, Sch0 P (now ++ [x]) lat ω → ptS ν ω → ω 246 = ν 246 → (∀ k j, (k = 243 ∨ k = 244) → ¬ (k = (ν 236 5).toNat ∧ j = now.length) → ω k j = ν k j) → Q ω) : tX7_putNow x ν Q := by
  have ly := h.ly
  obtain ⟨p1, p2, p3, p4, p5, p6, p7, p8, p9, p10⟩ := h
  intro _ _
  have nl : now.length ≤ 15625 := Nat.le_trans (by simp) (nodup_le _ _ p7 p8)
  refine ⟨fun z => by omega, fun _ => ⟨fun z => by omega, fun _ => ⟨fun z => ?_, fun z => s_isIn hx (fun y _ _ => ⟨fun _ => hqY ((p6 x hx).1 y), fun z => absurd z (by decide)⟩) (fun y _ _ => ⟨fun z => absurd z (by decide), fun _ => ?_⟩)⟩⟩⟩
  · -- the row is full: then x is in it
    by_cases q : x ∈ P ∨ x ∈ now
    · exact hqY q
    · exfalso
      have := nodup_lt p7 p8 hx (fun z => q (List.mem_append.1 z))
      rw [List.length_append] at this
      omega
  · have q : ¬ (x ∈ P ∨ x ∈ now) := fun z => y ((p6 x hx).2 z)
    rw [td32, tm32, Int.toNat_natCast]
    obtain ⟨A, eA⟩ : ∃ A, A = xOr (ν 245 (x / 32)) (xShl 1 ((x % 32 : Nat) : Int)) := ⟨_, rfl⟩
    refine ⟨⟨by omega, by omega⟩, wl fun _ => ?_⟩
    rw [← eA]
    have e5 : wi ν 245 (x / 32) A 236 5 = ν 236 5 := wi_cell (by omega)
    have e9 : wi ν 245 (x / 32) A 236 9 = ν 236 9 := wi_cell (by omega)
    rw [e5, e9]
    have ek : (ν 236 5).toNat = 243 ∨ (ν 236 5).toNat = 244 := by rcases p1 with z | z <;> omega
    have ekl : (ν 236 6).toNat = 243 ∨ (ν 236 6).toNat = 244 := by rcases p1 with z | z <;> omega
    have ekn : (ν 236 5).toNat ≠ (ν 236 6).toNat := by rcases p1 with z | z <;> omega
    obtain ⟨kn, hkn⟩ : ∃ k, k = (ν 236 5).toNat := ⟨_, rfl⟩
    obtain ⟨kl, hkl⟩ : ∃ k, k = (ν 236 6).toNat := ⟨_, rfl⟩
    rw [← hkn] at ek ekn p3 ly
    rw [← hkl] at ekl ekn p5
    rw [← hkn]
    refine ⟨ly.1, ⟨by omega, by omega⟩, wl fun _ => ?_⟩
    have e9b : wi (wi ν 245 (x / 32) A) kn (ν 236 9).toNat x 236 9 = ν 236 9 := by rw [wi_cell (by omega)]; exact e9
    rw [e9b]
    refine ⟨⟨by omega, by omega⟩, wl fun _ => hqN q _ ?_ ⟨fun k a b => ?_, fun j a b => ?_⟩ ?_ (fun k j a b => ?_)⟩
    · have g5 : wi (wi (wi ν 245 (x / 32) A) kn (ν 236 9).toNat x) 236 9 (ν 236 9 + 1) 236 5 = ν 236 5 := by rw [wi_place (by omega), wi_cell (by omega)]; exact e5
      have g6 : wi (wi (wi ν 245 (x / 32) A) kn (ν 236 9).toNat x) 236 9 (ν 236 9 + 1) 236 6 = ν 236 6 := by rw [wi_place (by omega), wi_cell (by omega), wi_cell (by omega)]
      have g245 : ∀ y, inB (wi (wi (wi ν 245 (x / 32) A) kn (ν 236 9).toNat x) 236 9 (ν 236 9 + 1) 245) y ↔ y = x ∨ inB (ν 245) y := fun y => inB_set (by rw [wi_cell (by omega), wi_cell (by omega), wi_self, eA]) (fun j hj => by rw [wi_cell (by omega), wi_cell (by omega), wi_place hj]) y
      have g246 : wi (wi (wi ν 245 (x / 32) A) kn (ν 236 9).toNat x) 236 9 (ν 236 9 + 1) 246 = ν 246 := by funext j; rw [wi_cell (by omega), wi_cell (by omega), wi_cell (by omega)]
      unfold Sch0
      rw [g5, g6, ← hkn, ← hkl, g246]
      refine ⟨p1, ?_, ?_, ?_, ?_, fun y hy => ?_, ?_, fun y hy => ?_, p9, p10⟩
      · rw [wi_self, p2]; simp
      · refine rowL_s (rowL_c p3 (fun i hi => ?_)) ?_
        · rw [wi_cell (by omega), wi_place (by omega), wi_cell (by omega)]
        · rw [wi_cell (by omega), show (ν 236 9).toNat = now.length by omega, wi_self]
      · rw [wi_place (by omega), wi_cell (by omega), wi_cell (by omega)]; exact p4
      · refine rowL_c p5 (fun i hi => ?_)
        rw [wi_cell (by omega), wi_cell (fun z => ekn z.symm), wi_cell (by omega)]
      · rw [g245, p6 y hy]
        simp only [List.mem_append, List.mem_singleton]
        constructor
        · rintro (z | z | z)
          · exact Or.inr (Or.inr z)
          · exact Or.inl z
          · exact Or.inr (Or.inl z)
        · rintro (z | z | z)
          · exact Or.inr (Or.inl z)
          · exact Or.inr (Or.inr z)
          · exact Or.inl z
      · rw [← List.append_assoc, List.nodup_append]
        refine ⟨p7, by simp, fun a ha b hb => ?_⟩
        rw [List.mem_singleton.1 hb]
        rintro rfl
        exact q (List.mem_append.1 ha)
      · rw [← List.append_assoc] at hy
        rcases List.mem_append.1 hy with z | z
        · exact p8 y z
        · rw [List.mem_singleton.1 z]; exact hx
    · funext j; rw [wi_cell a, wi_cell (by omega), wi_cell (by omega)]
    · rw [wi_place a, wi_cell (by omega), wi_cell (by omega)]
    · funext j; rw [wi_cell (by omega), wi_cell (by omega), wi_cell (by omega)]
    · rw [wi_cell (by omega)]
      by_cases e : k = kn
      · subst e
        rw [wi_place (fun z => b ⟨hkn, by omega⟩), wi_cell (by omega)]
      · rw [wi_cell e, wi_cell (by omega)]
theorem s_takeLater {ν : xM} {P lat : List Nat} {Q : xM → Prop} (h : Sch P [] lat ν) (hq : ∀ (ω : xM) (now : List Nat), Sch P now [] ω → swS ν ω → ω 246 = ν 246 → (∀ x ∈ now, x ∈ lat) → (∀ x ∈ lat, x ∈ P ∨ x ∈ now) → Q ω) : tX7_takeLater ν Q := by
  have ly := h.ly
  obtain ⟨p1, p2, p3, p4, p5, p6, p7, p8, p9, p10, p11⟩ := h
  have ek : (ν 236 5).toNat = 243 ∨ (ν 236 5).toNat = 244 := by rcases p1 with z | z <;> omega
  have ekl : (ν 236 6).toNat = 243 ∨ (ν 236 6).toNat = 244 := by rcases p1 with z | z <;> omega
  have ekn : (ν 236 5).toNat ≠ (ν 236 6).toNat := by rcases p1 with z | z <;> omega
  have c5 : (((ν 236 5).toNat : Nat) : Int) = ν 236 5 := by rcases p1 with z | z <;> omega
  have c6 : (((ν 236 6).toNat : Nat) : Int) = ν 236 6 := by rcases p1 with z | z <;> omega
  have ll := nodup_le _ _ p9 (fun y hy => (p10 y hy).1)
  intro _
  refine ⟨ly.2, ly.1, wl fun _ => wl fun _ => wl fun _ => wl fun _ => ?_⟩
  rw [c5, c6]
  obtain ⟨M, eM⟩ : ∃ M, M = wi (wi (wi (wi ν 236 6 (ν 236 5)) 236 5 (ν 236 6)) 236 10 0) 236 9 0 := ⟨_, rfl⟩
  rw [← eM]
  have Mk : ∀ k, k ≠ 236 → M k = ν k := fun k hk => by rw [eM]; funext j; rw [wi_cell hk, wi_cell hk, wi_cell hk, wi_cell hk]
  have M5 : M 236 5 = ν 236 6 := by rw [eM, wi_place (by omega), wi_place (by omega), wi_self]
  have M6 : M 236 6 = ν 236 5 := by rw [eM, wi_place (by omega), wi_place (by omega), wi_place (by omega), wi_self]
  have M9 : M 236 9 = 0 := by rw [eM, wi_self]
  have M10 : M 236 10 = 0 := by rw [eM, wi_place (by omega), wi_self]
  have MS : Sch0 P [] [] M := by
    unfold Sch0
    rw [M5, M6, M9, M10, Mk 245 (by omega), Mk 246 (by omega)]
    exact ⟨by omega, rfl, fun i hi => by simp at hi, rfl, fun i hi => by simp at hi, p6, p7, p8, by simp, fun x hx => by simp at hx⟩
  have Msw : swS ν M := ⟨fun k a _ => Mk k a, fun j a b c d => by rw [eM, wi_place c, wi_place d, wi_place a, wi_place b]⟩
  refine up1 (n := (lat.length : Int)) (fun i ξ => ∃ now, Sch0 P now [] ξ ∧ swS ν ξ ∧ ξ 246 = ν 246 ∧ ξ 236 5 = ν 236 6 ∧ (now.length : Int) ≤ i ∧ (∀ x ∈ now, x ∈ lat) ∧ (∀ j, (hj : j < lat.length) → (j : Int) < i → lat[j] ∈ P ∨ lat[j] ∈ now) ∧ (∀ j, (hj : j < lat.length) → i ≤ (j : Int) → ξ (ν 236 6).toNat j = (lat[j] : Nat))) (by omega) ⟨[], MS, Msw, Mk 246 (by omega), M5, by simp, fun x hx => by simp at hx, fun j hj z => by omega, fun j hj _ => by rw [Mk _ (by omega)]; exact p5 j hj⟩ ?_
  rintro i ξ K i0 i1 ⟨now, s1, s2, s3, s4, s5, s6, s7, s8⟩ _ hK
  obtain ⟨i, rfl⟩ : ∃ m : Nat, i = m := ⟨i.toNat, by omega⟩
  have fin : (lat.length : Int) ≤ i → Q ξ := fun z => hq ξ now (s1.up (fun x hx y => ?_)) s2 s3 s6 (fun x hx => ?_)
  · rw [p4]
    refine ⟨⟨by omega, by omega⟩, fun d => fin d, fun d => ⟨fun d2 => absurd d2 (by omega), fun d2 => ⟨⟨by omega, by omega⟩, ?_⟩⟩⟩
    have hi : i < lat.length := by omega
    have rd := s8 i hi (by omega)
    rw [Int.toNat_natCast, rd]
    have xl := (p10 _ (List.getElem_mem hi)).1
    refine s_putNow0 s1 xl (fun y _ => hK ξ (by omega) ⟨now, s1, s2, s3, s4, by omega, s6, fun j hj z => ?_, fun j hj z => s8 j hj (by omega)⟩) (fun y ω w1 w2 w3 w4 _ => hK ω (by omega) ⟨now ++ [lat[i]], w1, ⟨fun k a b => (w2.1 k a b).trans (s2.1 k a b), fun j a b c d => (w2.2 j c d).trans (s2.2 j a b c d)⟩, w3.trans s3, (w2.2 5 (by omega) (by omega)).trans s4, by simp; omega, fun x hx => ?_, fun j hj z => ?_, fun j hj z => ?_⟩)
    · by_cases q : j = i
      · subst q; exact y
      · exact s7 j hj (by omega)
    · rcases List.mem_append.1 hx with u | u
      · exact s6 x u
      · rw [List.mem_singleton.1 u]; exact List.getElem_mem hi
    · by_cases q : j = i
      · subst q; exact Or.inr (List.mem_append.2 (Or.inr (by simp)))
      · exact (s7 j hj (by omega)).elim Or.inl (fun u => Or.inr (List.mem_append.2 (Or.inl u)))
    · rw [w4 _ j (by omega) (fun u => by have := u.2; omega)]
      exact s8 j hj (by omega)
  · rw [s3] at y
    rcases p11 x hx y with u | u | u
    · obtain ⟨j, hj, e⟩ := List.getElem_of_mem u
      have := s7 j hj (by omega)
      rw [e] at this
      exact Or.inr this
    · exact Or.inr (Or.inl u)
    · simp at u
  · obtain ⟨j, hj, e⟩ := List.getElem_of_mem hx
    have := s7 j hj (by omega)
    rw [e] at this
    exact this
