theorem up4d {a b c d n : Int} {μ : xM} {body : (Int → Int → Int → Int → xM → Prop) → Int → Int → Int → Int → xM → Prop} (P : Int → Int → Int → Int → xM → Prop) (ha : a ≤ n) (h0 : P a b c d μ)
    (hs : ∀ (i b c d : Int) (ν : xM) (K : Int → Int → Int → Int → xM → Prop), a ≤ i → i ≤ n → P i b c d ν → xRan ν → (∀ b' c' d' ν', i < n → P (i + 1) b' c' d' ν' → K b' c' d' (i + 1) ν') → body K b c d i ν) : xLoop4 b c d a μ body := by
  refine ⟨fun m b c d i ν => a ≤ i ∧ i ≤ n ∧ m = (n - i).toNat ∧ P i b c d ν, ⟨_, by omega, ha, rfl, h0⟩, ?_⟩
  rintro m b c d i ν ⟨h1, h2, h3, h4⟩ hr
  exact hs i b c d ν _ h1 h2 h4 hr (fun b' c' d' ν' h5 h6 => ⟨_, by omega, by omega, by omega, rfl, h6⟩)
theorem s_leave {μ : xM} {o : Nat} {Q : xM → Prop} (h2 : xIn (μ o 1 + 1)) (h : Q (wi μ o 1 (μ o 1 + 1))) : tX4_leaveStanding o μ Q := fun _ => ⟨h2, wl fun _ => h⟩
theorem bst1_n {S : Nat → Nat → Int} {t v : Nat} {s : oS} (h : e1 s < 0) : bst1 S t s v = some (t, v, S t v) := by
  cases s with
  | none => rfl
  | some p => simp only [e1] at h; omega
theorem bst1_y {S : Nat → Nat → Int} {t v : Nat} {s : oS} (h : ¬ e1 s < 0) (h2 : ¬ S t v ≤ e3 s) : bst1 S t s v = some (t, v, S t v) := by
  cases s with
  | none => simp [e1] at h
  | some p =>
    simp only [e3] at h2
    simp only [bst1]
    rw [if_pos (by omega)]
theorem bst1_k {S : Nat → Nat → Int} {t v : Nat} {s : oS} (h : ¬ e1 s < 0) (h2 : S t v ≤ e3 s) : bst1 S t s v = s := by
  cases s with
  | none => simp [e1] at h
  | some p =>
    simp only [e3] at h2
    simp only [bst1]
    rw [if_neg (by omega)]
theorem futS.o {μ ν : xM} (h : futS μ ν) (hi : iOpW μ) : iOpW ν := iOpW_a h.a hi
theorem okS_N {R C : Nat → Int} {host : Int} {n : Nat} {f : Nat → Nat} {g x : Int} (hR : okR R) (hC : ∀ v, xIn (C v)) (hf : fOK R f g) (hn : n ≤ 8) : ∀ t : Nat, (t : Int) ≤ R 0 → okS R x f (bstN R x (scF R C host n f) f t) := by
  have bT := hR.T
  intro t
  induction t with
  | zero => intro _ p hp; simp [bstN] at hp
  | succ t ih =>
    intro ht
    have ft := hf.le t (by omega)
    refine okS_T (by omega) _ _ (ih (by omega)) (fun v hv => ?_)
    have q := upsBy_ok hv
    refine ⟨q.1, q.2.1, scF_in hR (hC v) (byF_word q.2.2) ?_ hn⟩
    rcases ft.2.1 with z | z
    · exact Or.inl z
    · exact Or.inr z.1
theorem s_receive {μ : xM} {o : Nat} {host s : Int} {g : Nat} {f : Nat → Nat} {Q : xM → Prop} (h : iOpW μ) (hs : iSit μ) (ho : 240 ≤ o) (hN : isNt μ o host f g s) (hf : fOK (μ 263) f g) (hg : (g : Int) < μ 263 4) (h0 : 0 ≤ host) (h3 : host ≤ 3) (hC : ∀ v, xIn (μ 268 v))
    (hq0 : resF (μ 263) (μ 268) host g f = none → ∀ ν, futS μ ν → Q (wi ν o 1 (g + 1)))
    (hq1 : ∀ t v : Nat, resF (μ 263) (μ 268) host g f = some (t, v) → (t : Int) < μ 263 0 → byF (μ 263) (f t) v = μ 263 (295 + g) → ∀ ν, futS μ ν → Q (sitM ν o t v)) : tX8_receive o μ Q := by
  have hR := h.2.1
  have bT := hR.T
  have bW := hR.W
  have bN := hR.N
  have n1 : μ o 1 = g := hN.2.2.1
  have bx := hR.fst hg
  obtain ⟨x, hx⟩ : ∃ x, x = μ 263 (295 + g) := ⟨_, rfl⟩
  obtain ⟨n, hn⟩ : ∃ n, n = (μ 263 4).toNat - (g + 1) := ⟨_, rfl⟩
  obtain ⟨S, hS⟩ : ∃ S, S = scF (μ 263) (μ 268) host n f := ⟨_, rfl⟩
  have eres : resF (μ 263) (μ 268) host g f = match bstN (μ 263) x S f (μ 263 0).toNat with
    | none => none
    | some p => if host = 3 ∧ p.2.2 < mostF (μ 263) n (f 0) (f 1) (f 2) then none else some (p.1, p.2.1) := by
    unfold resF; rw [← hx, ← hn, ← hS]; rfl
  have okN : ∀ t : Nat, (t : Int) ≤ μ 263 0 → okS (μ 263) x f (bstN (μ 263) x S f t) := by
    rw [hS]; exact okS_N hR hC hf (by omega)
  intro _
  rw [n1]
  refine w_guest h (fun _ _ _ _ => ⟨fun _ => ?_, fun z => absurd z (by decide)⟩) (fun z => absurd ⟨by omega, hg⟩ z)
  rw [n1]
  refine w_first h (fun _ _ _ _ => ?_) (fun z => absurd ⟨by omega, hg⟩ z)
  rw [Int.toNat_natCast, ← hx]
  refine up4d (n := μ 263 0) (fun t a b c ν => futS μ ν ∧ a = e1 (bstN (μ 263) x S f t.toNat) ∧ b = e2 (bstN (μ 263) x S f t.toNat) ∧ c = e3 (bstN (μ 263) x S f t.toNat)) (by omega) ⟨futS.rf hs, rfl, rfl, rfl⟩ ?_
  rintro t a b c ν K t0 t1 ⟨f1, ea, eb, ec⟩ _ hK
  obtain ⟨tn, rfl⟩ : ∃ tn : Nat, t = tn := ⟨t.toNat, by omega⟩
  rw [Int.toNat_natCast] at ea eb ec
  have o1 := f1.o h
  have m3 : ν 263 = μ 263 := f1.1 263 (by omega) (by omega)
  have N1 := hN.fut ho f1
  have e39 : ν 39 0 = μ 263 0 := by rw [o1.2.2.1.1 0 (by omega), m3]
  have ok := okN tn (by omega)
  have bd := ok.in1 hR
  rw [e39]
  refine ⟨⟨by omega, by omega⟩, fun d => ⟨⟨by omega, by omega⟩, ?_⟩, fun d => ?_⟩
  · have et : tn = (μ 263 0).toNat := by omega
    rw [et] at ea eb ec ok bd
    have xg : ∀ ν, futS μ ν → xIn (ν o 1 + 1) := fun ν f2 => by
      rw [(hN.fut ho f2).2.2.1]; exact ⟨by omega, by omega⟩
    have lv : resF (μ 263) (μ 268) host g f = none → ∀ ν, futS μ ν → tX4_leaveStanding o ν (fun μ23 => xRan μ23 → Q μ23) := by
      intro z ν f2
      refine s_leave (xg ν f2) (fun _ => ?_)
      rw [(hN.fut ho f2).2.2.1]
      exact hq0 z ν f2
    cases hb : bstN (μ 263) x S f (μ 263 0).toNat with
    | none =>
      rw [hb] at ea eres
      exact ⟨fun _ => lv eres ν f1, fun z => absurd (show a < 0 by rw [ea]; decide) z⟩
    | some p =>
      obtain ⟨p1, p2, p3, p4⟩ := ok p hb
      rw [hb] at ea eb ec eres bd
      simp only [e1, e2, e3] at ea eb ec bd
      have sit : resF (μ 263) (μ 268) host g f = some (p.1, p.2.1) → ∀ ν, futS μ ν → tX4_sitDown o a b ν (fun μ28 => xRan μ28 → Q μ28) := by
        intro z ν f2
        rw [ea, eb]
        exact s_sitDown (by omega) (by omega) (xg ν f2) (fun _ => hq1 _ _ z p1 (by rw [p2, hx]) ν f2)
      refine ⟨fun z => absurd z (by omega), fun _ => ⟨fun z => ⟨⟨by omega, by omega⟩, sit ?_ ν f1⟩, fun z => s_inTheEnd (v := 24) (n := n) (F := f) o1 f1.2.2.2 N1 (by omega) (by rw [m3]; omega) (by omega) ?_ (fun j hj => (hf.le j hj).1) (by rw [m3]; exact hf.vt) (fun ν2 f2 _ _ => ⟨by rw [ec]; exact p4, fun y => ⟨⟨by omega, by omega⟩, sit ?_ ν2 (f1.tt f2)⟩, fun y => lv ?_ ν2 (f1.tt f2)⟩)⟩⟩
      · rw [eres]
        have : ν o 0 = host := N1.2.1
        simp only
        rw [if_neg (by omega)]
      · intro j _
        rw [if_neg (by omega)]
      · rw [eres]
        rw [m3] at y
        simp only
        rw [if_neg (by omega)]
      · rw [eres]
        rw [m3] at y
        have : ν o 0 = host := N1.2.1
        simp only
        rw [if_pos ⟨by omega, by omega⟩]
  · have tl : tn < 3 := by omega
    have ft := hf.le tn tl
    have ftw : f tn = 24 ∨ ((f tn : Nat) : Int) < μ 263 3 := by
      rcases ft.2.1 with z | z
      · exact Or.inl z
      · exact Or.inr z.1
    refine s_at (fun _ _ _ _ => ?_) (fun z => absurd ⟨t0, by omega⟩ z)
    rw [Int.toNat_natCast, N1.1 tn tl]
    have ql := upsF_len (R := μ 263) (w := f tn)
    have inl : ∀ i : Nat, ∀ v ∈ ((upsF (μ 263) (f tn)).take i).filter (fun v => decide (byF (μ 263) (f tn) v = x)), byF (μ 263) (f tn) v = x ∧ v < 24 ∧ xIn (S tn v) := by
      intro i v hv
      have q := List.mem_filter.1 hv
      have q1 := upsF_mem.1 (List.mem_of_mem_take q.1)
      refine ⟨by simpa using q.2, q1.1, ?_⟩
      rw [hS]; exact scF_in hR (hC v) (byF_word q1.2) ftw (by omega)
    refine up4d (n := ((upsF (μ 263) (f tn)).length : Int)) (fun i a b c ω => futS μ ω ∧ a = e1 (bstT S tn (((upsF (μ 263) (f tn)).take i.toNat).filter (fun v => decide (byF (μ 263) (f tn) v = x))) (bstN (μ 263) x S f tn)) ∧ b = e2 (bstT S tn (((upsF (μ 263) (f tn)).take i.toNat).filter (fun v => decide (byF (μ 263) (f tn) v = x))) (bstN (μ 263) x S f tn)) ∧ c = e3 (bstT S tn (((upsF (μ 263) (f tn)).take i.toNat).filter (fun v => decide (byF (μ 263) (f tn) v = x))) (bstN (μ 263) x S f tn))) (by omega) ⟨f1, ea, eb, ec⟩ ?_
    rintro i a b c ω K2 i0 i1 ⟨f2, ea2, eb2, ec2⟩ _ hK2
    have o2 := f2.o h
    have m3 : ω 263 = μ 263 := f2.1 263 (by omega) (by omega)
    have q := (o2.2.2.2.2.2.2.1 (f tn) (by omega)).1
    rw [m3] at q
    have okI := okS_T (S := S) (t := tn) (by omega) _ _ ok (inl i.toNat)
    have bdI := okI.in1 hR
    refine s_ups (by omega) (by omega) (fun _ _ => ?_)
    rw [Int.toNat_natCast, q]
    refine ⟨⟨by omega, by omega⟩, fun y => hK _ _ _ _ (by omega) ⟨f2, ?_⟩, fun y => ?_⟩
    · have e : i.toNat = (upsF (μ 263) (f tn)).length := by omega
      rw [e, List.take_length] at ea2 eb2 ec2
      rw [show ((tn : Int) + 1).toNat = tn + 1 by omega]
      exact ⟨ea2, eb2, ec2⟩
    · have hi : i.toNat < (upsF (μ 263) (f tn)).length := by omega
      have u := o2.up (w := f tn) (by omega) (show i.toNat < (upsF (ω 263) (f tn)).length by rw [m3]; exact hi)
      simp only [m3] at u
      have et : (upsF (μ 263) (f tn)).take (i + 1).toNat = (upsF (μ 263) (f tn)).take i.toNat ++ [(upsF (μ 263) (f tn))[i.toNat]] := by
        rw [show (i + 1).toNat = i.toNat + 1 by omega]; exact (List.take_append_getElem hi).symm
      refine s_byOf (by omega) (by omega) i0 (by omega) (fun _ _ => ?_)
      rw [Int.toNat_natCast, u.2.1]
      refine ⟨fun z => hK2 _ _ _ _ (by omega) ⟨f2, ?_⟩, fun z => s_upOf (by omega) (by omega) i0 (by omega) (fun _ _ => ?_)⟩
      · rw [et, List.filter_append]
        simp only [List.filter_cons, List.filter_nil, z, decide_false, Bool.false_eq_true, if_false, List.append_nil]
        exact ⟨ea2, eb2, ec2⟩
      · have ef : ((upsF (μ 263) (f tn)).take (i + 1).toNat).filter (fun v => decide (byF (μ 263) (f tn) v = x)) = ((upsF (μ 263) (f tn)).take i.toNat).filter (fun v => decide (byF (μ 263) (f tn) v = x)) ++ [(upsF (μ 263) (f tn))[i.toNat]] := by
          rw [et, List.filter_append]
          simp only [List.filter_cons, List.filter_nil, z, decide_true, if_true]
        rw [Int.toNat_natCast, u.1]
        have hv3 := byF_word u.2.2.2
        have fin : ∀ ω', futS μ ω' → ¬ (¬ a < 0 ∧ S tn (upsF (μ 263) (f tn))[i.toNat] ≤ c) → K2 tn ((upsF (μ 263) (f tn))[i.toNat] : Int) (S tn (upsF (μ 263) (f tn))[i.toNat]) (i + 1) ω' := by
          intro ω' f3 hc
          refine hK2 _ _ _ _ (by omega) ⟨f3, ?_⟩
          rw [ef, bstT_snoc]
          rw [ea2, ec2] at hc
          by_cases y2 : e1 (bstT S tn (((upsF (μ 263) (f tn)).take i.toNat).filter (fun v => decide (byF (μ 263) (f tn) v = x))) (bstN (μ 263) x S f tn)) < 0
          · rw [bst1_n y2]
            exact ⟨rfl, rfl, rfl⟩
          · rw [bst1_y y2 (fun y3 => hc ⟨y2, y3⟩)]
            exact ⟨rfl, rfl, rfl⟩
        refine ⟨⟨by omega, by omega⟩, ?_⟩
        refine s_scoreOf (n := n) o2 f2.2.2.2 (hN.fut ho f2) (by rw [m3]; exact hf) (by omega) (by rw [m3]; omega) h0 h3 (by rw [m3]; omega) (by have z2 := congrFun m3 3; omega) (fun ω2 f3 _ _ => ?_)
        have f23 := f2.tt f3
        have o3 := f23.o h
        have m33 : ω2 263 = μ 263 := f23.1 263 (by omega) (by omega)
        have u3 := o3.up (w := f tn) (by omega) (show i.toNat < (upsF (ω2 263) (f tn)).length by rw [m33]; exact hi)
        simp only [m33] at u3
        have eS : scF (ω 263) (ω 268) host n f tn = S tn := by rw [m3, f2.1 268 (by omega) (by omega), hS]
        rw [eS]
        refine ⟨⟨by omega, by omega⟩, fun y2 => s_upOf (by omega) (by omega) i0 (by omega) (fun _ _ => ?_), fun y2 => ⟨by rw [ec2]; exact bdI.2.2.2.2, fun y3 => hK2 _ _ _ _ (by omega) ⟨f23, ?_⟩, fun y3 => s_upOf (by omega) (by omega) i0 (by omega) (fun _ _ => ?_)⟩⟩
        · rw [Int.toNat_natCast, u3.1]
          exact fin ω2 f23 (fun z => z.1 y2)
        · rw [ef, bstT_snoc, bst1_k (by rw [← ea2]; exact y2) (by rw [← ec2]; exact y3)]
          exact ⟨ea2, eb2, ec2⟩
        · rw [Int.toNat_natCast, u3.1]
          exact fin ω2 f23 (fun z => y3 z.2)
