/-! the class's futures -/
theorem seatF_ge {R : Nat → Int} {x p : Int} {f : Nat → Nat → Nat → Int} {a b c : Nat} : f a b c ≤ seatF R x p f a b c := (seatF_le.1 (Int.le_refl _)).1
theorem mostF_rng {R : Nat → Int} : ∀ n a b c, 0 ≤ mostF R n a b c ∧ mostF R n a b c ≤ n := by
  intro n
  induction n with
  | zero => intro a b c; simp [mostF]
  | succ n ih =>
    intro a b c
    refine ⟨Int.le_trans (ih a b c).1 seatF_ge, ?_⟩
    show seatF R _ 1 (mostF R n) a b c ≤ _
    rw [seatF_le]
    refine ⟨by have := (ih a b c).2; omega, fun v _ => by have := (ih v b c).2; omega, fun _ v _ => by have := (ih a v c).2; omega, fun _ v _ => by have := (ih a b v).2; omega⟩
/-- what the futures may have written -/
def futS (μ ν : xM) : Prop := (∀ k, k ≠ 232 → k ≠ 233 → ν k = μ k) ∧ (∀ j, j ≠ 4 → ν 232 j = μ 232 j) ∧ (ν 232 4 = 0 → ν 233 = μ 233 ∧ μ 232 4 = 0) ∧ iSit ν
theorem futS.rf {μ : xM} (h : iSit μ) : futS μ μ := ⟨fun _ _ _ => rfl, fun _ _ => rfl, fun z => ⟨rfl, z⟩, h⟩
theorem futS.tt {μ ν ω : xM} (h : futS μ ν) (h2 : futS ν ω) : futS μ ω := ⟨fun k a b => (h2.1 k a b).trans (h.1 k a b), fun j hj => (h2.2.1 j hj).trans (h.2.1 j hj), fun z => ⟨((h2.2.2.1 z).1).trans (h.2.2.1 (h2.2.2.1 z).2).1, (h.2.2.1 (h2.2.2.1 z).2).2⟩, h2.2.2.2⟩
theorem futS.a {μ ν : xM} (h : futS μ ν) : asame μ ν := by
  intro k j hn
  by_cases q : k = 232
  · subst q; exact absurd hn (by simp [ascr, cscr])
  · by_cases q2 : k = 233
    · subst q2; exact absurd hn (by simp [ascr, cscr])
    · rw [h.1 k q q2]
theorem upsBy_mem {R : Nat → Int} {w v : Nat} {x : Int} : v ∈ upsBy R w x ↔ v ∈ upsF R w ∧ byF R w v = x := by simp [upsBy]
/-- one table's -/
theorem w_mostSeated {F : Int → Int → Int → Int → xM → (Int → xM → Prop) → Prop} {f : Nat → Nat → Nat → Int} {μ : xM} {g : Int} {w o t : Nat} {Q : Int → xM → Prop} (h : iOpW μ) (hs : iSit μ) (g0 : 0 ≤ g) (g1 : g < μ 263 4) (hw : w ≤ 24) (ho : o ≤ 24) (ht : t ≤ 24)
    (hf : ∀ a b c, 0 ≤ f a b c ∧ f a b c ≤ 100)
    (ih : ∀ (v : Nat) (ν : xM) (Q : Int → xM → Prop), v < 24 → iOpW ν → iSit ν → ν 263 = μ 263 → (∀ ω, futS ν ω → Q (f v o t) ω) → F (g + 1) v o t ν Q)
    (hq : ∀ ν, futS μ ν → Q (mxB (fun v => 1 + f v o t) (upsBy (μ 263) w (μ 263 (295 + g.toNat))) 0) ν) : tX0_mostSeated F g w o t μ Q := by
  have bN := h.2.1.N
  intro _ _ _ _ _
  refine w_first h (fun _ _ _ _ => ?_) (fun z => absurd ⟨g0, g1⟩ z)
  obtain ⟨x, hx⟩ : ∃ x, x = μ 263 (295 + g.toNat) := ⟨_, rfl⟩
  rw [← hx] at hq ⊢
  have ql := upsF_len (R := μ 263) (w := w)
  refine up2b (n := ((upsF (μ 263) w).length : Int)) (fun i m ν => futS μ ν ∧ m = mxB (fun v => 1 + f v o t) (((upsF (μ 263) w).take i.toNat).filter (fun v => decide (byF (μ 263) w v = x))) 0) (by omega) ⟨futS.rf hs, rfl⟩ ?_
  rintro i m ν K i0 i1 ⟨f1, rfl⟩ _ hK
  have hO : iOpW ν := iOpW_a f1.a h
  have e3 : ν 263 = μ 263 := f1.1 263 (by omega) (by omega)
  have mr : 0 ≤ mxB (fun v => 1 + f v o t) (((upsF (μ 263) w).take i.toNat).filter (fun v => decide (byF (μ 263) w v = x))) 0 ∧ mxB (fun v => 1 + f v o t) (((upsF (μ 263) w).take i.toNat).filter (fun v => decide (byF (μ 263) w v = x))) 0 ≤ 101 := by
    refine ⟨((mxB_le _ _).1 (Int.le_refl _)).1, (mxB_le _ _).2 ⟨by omega, fun v _ => by have := (hf v o t).2; omega⟩⟩
  have q := (hO.2.2.2.2.2.2.1 w (by omega)).1
  rw [e3] at q
  refine s_ups (by omega) (by omega) (fun _ _ => ?_)
  rw [Int.toNat_natCast, q]
  refine ⟨⟨by omega, by omega⟩, fun c => ⟨⟨by omega, by omega⟩, ?_⟩, fun c => ?_⟩
  · rw [List.take_of_length_le (by omega)]; exact hq ν f1
  · have hi : i.toNat < (upsF (μ 263) w).length := by omega
    have u := hO.up (w := w) (by omega) (show i.toNat < (upsF (ν 263) w).length by rw [e3]; exact hi)
    simp only [e3] at u
    have et : (upsF (μ 263) w).take (i + 1).toNat = (upsF (μ 263) w).take i.toNat ++ [(upsF (μ 263) w)[i.toNat]] := by
      rw [show (i + 1).toNat = i.toNat + 1 by omega]; exact (List.take_append_getElem hi).symm
    refine s_byOf (by omega) (by omega) i0 (by omega) (fun _ _ => ?_)
    rw [Int.toNat_natCast, u.2.1]
    refine ⟨fun z => hK _ _ (by omega) ⟨f1, ?_⟩, fun z => s_upOf (by omega) (by omega) i0 (by omega) (fun _ _ => ?_)⟩
    · rw [et, List.filter_append]; simp [z]
    · rw [Int.toNat_natCast, u.1]
      refine ⟨⟨by omega, by omega⟩, ih _ ν _ u.2.2.1 hO f1.2.2.2 e3 (fun ω f2 _ _ => ⟨⟨by omega, by omega⟩, ?_, hK _ _ (by omega) ⟨f1.tt f2, ?_⟩⟩)⟩
      · have := hf (upsF (μ 263) w)[i.toNat] o t
        exact ⟨by omega, by omega⟩
      · rw [et, List.filter_append]
        have : [(upsF (μ 263) w)[i.toNat]].filter (fun v => decide (byF (μ 263) w v = x)) = [(upsF (μ 263) w)[i.toNat]] := by simp [z]
        rw [this, mxB_snoc]
theorem w_mostFrom : ∀ (n fuel : Nat), n < fuel → ∀ (g : Int) (a b c : Nat) (μ : xM) (Q : Int → xM → Prop), iOpW μ → iSit μ → g + n = μ 263 4 → 0 ≤ g → a ≤ 24 → b ≤ 24 → c ≤ 24 → vtF (μ 263) b c → (∀ ν, futS μ ν → Q (mostF (μ 263) n a b c) ν) → tX0_mostFrom fuel g a b c μ Q := by
  intro n
  induction n with
  | zero =>
    intro fuel hf g a b c μ Q h hs hg g0 ha hb hc hv hq
    obtain ⟨m, rfl⟩ : ∃ m, fuel = m + 1 := ⟨fuel - 1, by omega⟩
    have e4 : μ 39 4 = μ 263 4 := h.2.2.1.1 4 (by omega)
    intro _ _ _ _ _
    exact ⟨fun z => by omega, fun _ => ⟨fun _ => hq μ (futS.rf hs), fun z => absurd (show μ 39 4 ≤ g by omega) z⟩⟩
  | succ n ihn =>
    intro fuel hf g a b c μ Q h hs hg g0 ha hb hc hv hq
    obtain ⟨m, rfl⟩ : ∃ m, fuel = m + 1 := ⟨fuel - 1, by omega⟩
    have e4 : μ 39 4 = μ 263 4 := h.2.2.1.1 4 (by omega)
    have e0 : ∀ ν, iOpW ν → ν 263 = μ 263 → ν 39 0 = μ 263 0 := fun ν o e => by rw [o.2.2.1.1 0 (by omega), e]
    have bN := h.2.1.N
    have bT := h.2.1.T
    have hR := h.2.1
    obtain ⟨lo, mid, hi, s1, s2, s3, el, eh, em, vs, sf⟩ := srt_ex hR ha hb hc hv
    have fs := sf (mostF (μ 263) (n + 1)) (fun z => most_12 z _) (fun z => most_23 z _)
    rw [← fs] at hq
    have mr := mostF_rng (R := μ 263) (n + 1) lo mid hi
    have fb : ∀ a b c, 0 ≤ mostF (μ 263) n a b c ∧ mostF (μ 263) n a b c ≤ 100 := fun a b c => by have := mostF_rng (R := μ 263) n a b c; omega
    have sl := slotN_lt s1 s2 s3
    obtain ⟨gn, rfl⟩ : ∃ gn : Nat, g = gn := ⟨g.toNat, by omega⟩
    have en : (μ 263 4).toNat - gn = n + 1 := by omega
    intro _ _ _ _ _
    rw [em, el, eh]
    refine ⟨fun z => by omega, fun _ => ⟨fun z => absurd (show μ 39 4 ≤ gn from z) (by omega), fun _ => ⟨fun z => by omega, fun _ => ⟨fun _ => ⟨⟨by omega, by omega⟩, s_slotOf s1 s2 s3 (fun _ _ => ⟨⟨by omega, by omega⟩, fun k => ⟨⟨by omega, by omega⟩, ?_⟩, fun k => ?_⟩)⟩, fun z => by omega⟩⟩⟩⟩
    · rw [Int.toNat_natCast] at k
      -- not known yet
      have fin : ∀ (ν : xM) (M : Int), futS μ ν → M = mostF (μ 263) (n + 1) lo mid hi → tX0_mostFrom_b209 (tX0_mostFrom m) gn a b c (slotN lo mid hi) (4 * gn) M ν Q := by
        intro ν M f1 hM _
        rw [Int.toNat_natCast]
        refine ⟨⟨by omega, by omega⟩, wl fun _ => wl fun _ => ⟨⟨by omega, by omega⟩, ?_⟩⟩
        rw [hM]
        have e3 : ν 263 = μ 263 := f1.1 263 (by omega) (by omega)
        refine hq _ ⟨fun k a b => ?_, fun j hj => ?_, fun z => ?_, fun x y z h1 h2 h3 h4 g' hg' => ?_⟩
        · rw [← f1.1 k a b]; funext j; rw [wi_cell a, wi_cell b]
        · rw [wi_place hj, wi_cell (by omega)]; exact f1.2.1 j hj
        · rw [wi_self] at z; exact absurd z (by decide)
        · have e263 : wi (wi ν 233 (slotN lo mid hi) (xOr (ν 233 (slotN lo mid hi)) (xShl (mostF (μ 263) (n + 1) lo mid hi + 1) (4 * gn)))) 232 4 1 263 = μ 263 := by
            funext j; rw [wi_cell (by omega), wi_cell (by omega), e3]
          rw [e263] at h4 hg' ⊢
          have old := f1.2.2.2 x y z h1 h2 h3 (by rw [e3]; exact h4) g' (by rw [e3]; exact hg')
          rw [wi_cell (by omega)]
          have g'8 : g' < 8 := by omega
          by_cases q : slotN x y z = slotN lo mid hi
          · obtain ⟨rfl, rfl, rfl⟩ := slot_inj h1 h2 h3 s1 s2 s3 q
            rw [wi_self]
            rw [e3] at old
            by_cases zz : nib (ν 233 (slotN x y z)) gn = 0
            · rw [nib_or (by omega) g'8 (by omega) (by omega) zz]
              by_cases q2 : g' = gn
              · subst q2
                rw [if_pos rfl, en]; right; rfl
              · rw [if_neg q2]; exact old
            · -- it was written meanwhile: with the same number
              have known : nib (ν 233 (slotN x y z)) gn = mostF (μ 263) (n + 1) x y z + 1 := by
                have o2 := f1.2.2.2 x y z h1 h2 h3 (by rw [e3]; exact h4) gn (by rw [e3]; omega)
                rw [e3, en] at o2
                exact o2.resolve_left zz
              have idem : nib (xOr (ν 233 (slotN x y z)) (xShl (mostF (μ 263) (n + 1) x y z + 1) (4 * gn))) g' = nib (ν 233 (slotN x y z)) g' := by
                rw [nib_eq _ g' g'8, nib_eq _ g' g'8]
                rw [nib_eq _ gn (by omega)] at known
                rw [or_shl _ _ gn (by omega)]
                congr 2
                have em2 : (Int32.ofInt (mostF (μ 263) (n + 1) x y z + 1)).toBitVec = ((Int32.ofInt (ν 233 (slotN x y z))).toBitVec >>> (4 * gn)) &&& 15#32 := by
                  apply BitVec.eq_of_toNat_eq
                  have q5 : ∀ j : Fin 16, (Int32.ofInt (j.val : Int)).toBitVec.toNat = j.val := by decide
                  have q6 := q5 ⟨(mostF (μ 263) (n + 1) x y z + 1).toNat, by omega⟩
                  simp only [Int.toNat_of_nonneg (show 0 ≤ mostF (μ 263) (n + 1) x y z + 1 by omega)] at q6
                  rw [q6]; omega
                rw [em2]
                generalize (Int32.ofInt (ν 233 (slotN x y z))).toBitVec = X
                have : X ||| ((X >>> (4 * gn)) &&& 15#32) <<< (4 * gn) = X := by
                  apply BitVec.eq_of_getLsbD_eq
                  intro i hi
                  simp only [BitVec.getLsbD_or, BitVec.getLsbD_shiftLeft, BitVec.getLsbD_and, BitVec.getLsbD_ushiftRight]
                  by_cases h6 : i < 4 * gn
                  · simp [h6]
                  · rw [show 4 * gn + (i - 4 * gn) = i by omega]
                    cases X.getLsbD i <;> simp
                rw [this]
              rw [idem]; exact old
          · rw [wi_place q]
            rw [e3] at old
            exact old
      have sym : ∀ z, mostF (μ 263) (n + 1) lo mid hi ≤ z ↔ mostF (μ 263) n lo mid hi ≤ z ∧ (∀ v ∈ upsBy (μ 263) lo (μ 263 (295 + gn)), 1 + mostF (μ 263) n v mid hi ≤ z) ∧ (1 < μ 263 0 → ∀ v ∈ upsBy (μ 263) mid (μ 263 (295 + gn)), 1 + mostF (μ 263) n v lo hi ≤ z) ∧ (2 < μ 263 0 → ∀ v ∈ upsBy (μ 263) hi (μ 263 (295 + gn)), 1 + mostF (μ 263) n v lo mid ≤ z) := by
        intro z
        show seatF (μ 263) (μ 263 (295 + ((μ 263 4).toNat - (n + 1)))) 1 (mostF (μ 263) n) lo mid hi ≤ z ↔ _
        rw [show (μ 263 4).toNat - (n + 1) = gn by omega, seatF_le]
        refine and_congr Iff.rfl (and_congr Iff.rfl (and_congr (imp_congr_right fun q => forall_congr' fun v => imp_congr_right fun _ => ?_) (imp_congr_right fun q => forall_congr' fun v => imp_congr_right fun _ => ?_)))
        · rw [most_12 q n v lo hi]
        · rw [← most_12 (show 1 < μ 263 0 by omega) n v lo mid, ← most_23 q n lo v mid]
      have ihv : ∀ o t : Nat, o ≤ 24 → t ≤ 24 → vtF (μ 263) o t → ∀ (v : Nat) (ν : xM) (Q : Int → xM → Prop), v < 24 → iOpW ν → iSit ν → ν 263 = μ 263 → (∀ ω, futS ν ω → Q (mostF (μ 263) n v o t) ω) → tX0_mostFrom m (gn + 1) v o t ν Q := by
        intro o t ho ht hvt v ν Q hv2 o1 o2 o3 o4
        refine ihn m (by omega) (gn + 1) v o t ν Q o1 o2 (by rw [o3]; omega) (by omega) (by omega) ho ht (by rw [o3]; exact hvt) (fun ω f => ?_)
        rw [o3]; exact o4 ω f
      refine ihn m (by omega) (gn + 1) lo mid hi μ _ h hs (by omega) (by omega) (by omega) (by omega) (by omega) vs (fun ν1 f1 _ _ => ?_)
      have o1 : iOpW ν1 := iOpW_a f1.a h
      have e1 : ν1 263 = μ 263 := f1.1 263 (by omega) (by omega)
      refine w_mostSeated (f := mostF (μ 263) n) o1 f1.2.2.2 (by omega) (by rw [e1]; omega) (by omega) (by omega) (by omega) fb (fun v ν Q a b c d e => ihv mid hi (by omega) (by omega) vs v ν Q a b c (by rw [d, e1]) e) (fun ν2 f2 _ _ => ?_)
      have f12 := f1.tt f2
      have o2 : iOpW ν2 := iOpW_a f12.a h
      have e2 : ν2 263 = μ 263 := f12.1 263 (by omega) (by omega)
      rw [e1, Int.toNat_natCast, e0 ν2 o2 e2]
      have b173 : ∀ (ν3 : xM) (M : Int), futS μ ν3 → xIn M → (∀ z, M ≤ z ↔ mostF (μ 263) n lo mid hi ≤ z ∧ (∀ v ∈ upsBy (μ 263) lo (μ 263 (295 + gn)), 1 + mostF (μ 263) n v mid hi ≤ z) ∧ (1 < μ 263 0 → ∀ v ∈ upsBy (μ 263) mid (μ 263 (295 + gn)), 1 + mostF (μ 263) n v lo hi ≤ z)) → tX0_mostFrom_b173 (tX0_mostFrom m) gn a b c lo hi mid (slotN lo mid hi) (4 * gn) M ν3 Q := by
        intro ν3 M f3 hMi hM _
        have o3 : iOpW ν3 := iOpW_a f3.a h
        have e3 : ν3 263 = μ 263 := f3.1 263 (by omega) (by omega)
        rw [e0 ν3 o3 e3]
        refine ⟨fun q => fin ν3 M f3 (eq_of_le fun z => ?_), fun q => ⟨⟨by omega, by omega⟩, ⟨by omega, by omega⟩, fun q2 => fin ν3 M f3 (eq_of_le fun z => ?_), fun q2 => ⟨⟨by omega, by omega⟩, w_mostSeated (f := mostF (μ 263) n) o3 f3.2.2.2 (by omega) (by rw [e3]; omega) (by omega) (by omega) (by omega) fb (fun v ν Q a b c d e => ihv lo mid (by omega) (by omega) ⟨fun z => by omega, fun z => by omega⟩ v ν Q a b c (by rw [d, e3]) e) (fun ν4 f4 _ _ => ⟨hMi, fin ν4 _ (f3.tt f4) (eq_of_le fun z => ?_)⟩)⟩⟩⟩
        · rw [hM, sym]
          exact and_congr Iff.rfl (and_congr Iff.rfl ⟨fun y => ⟨y, fun y2 => by omega⟩, fun y => y.1⟩)
        · rw [hM, sym]
          refine and_congr Iff.rfl (and_congr Iff.rfl ⟨fun y => ⟨y, fun y2 v hv => ?_⟩, fun y => y.1⟩)
          have e : hi = mid := by omega
          rw [e] at hv
          have := y (by omega) v hv
          rw [e] at this
          exact this
        · rw [e3, Int.toNat_natCast, sym, Int.max_le, hM, mxB_le]
          refine ⟨fun y => ⟨y.1.1, y.1.2.1, y.1.2.2, fun _ => y.2.2⟩, fun y => ⟨⟨y.1, y.2.1, y.2.2.1⟩, ?_, y.2.2.2 (by omega)⟩⟩
          exact Int.le_trans (fb lo mid hi).1 y.1
      have m12 : ∀ z, max (mostF (μ 263) n lo mid hi) (mxB (fun v => 1 + mostF (μ 263) n v mid hi) (upsBy (μ 263) lo (μ 263 (295 + gn))) 0) ≤ z ↔ mostF (μ 263) n lo mid hi ≤ z ∧ ∀ v ∈ upsBy (μ 263) lo (μ 263 (295 + gn)), 1 + mostF (μ 263) n v mid hi ≤ z := by
        intro z
        rw [Int.max_le, mxB_le]
        exact ⟨fun y => ⟨y.1, y.2.2⟩, fun y => ⟨y.1, Int.le_trans (fb lo mid hi).1 y.1, y.2⟩⟩
      have m12b : xIn (max (mostF (μ 263) n lo mid hi) (mxB (fun v => 1 + mostF (μ 263) n v mid hi) (upsBy (μ 263) lo (μ 263 (295 + gn))) 0)) := by
        have q1 := (m12 101).2 ⟨by have := (fb lo mid hi).2; omega, fun v _ => by have := (fb v mid hi).2; omega⟩
        have q2 := ((m12 _).1 (Int.le_refl _)).1
        have := (fb lo mid hi).1
        exact ⟨by omega, by omega⟩
      refine ⟨fun q => b173 ν2 _ f12 m12b (fun z => ?_), fun q => ⟨fun q2 => b173 ν2 _ f12 m12b (fun z => ?_), fun q2 => w_mostSeated (f := mostF (μ 263) n) o2 f12.2.2.2 (by omega) (by rw [e2]; omega) (by omega) (by omega) (by omega) fb (fun v ν Q a b c d e => ihv lo hi (by omega) (by omega) ⟨fun z => by omega, vs.2⟩ v ν Q a b c (by rw [d, e2]) e) (fun ν4 f4 _ _ => b173 ν4 _ (f12.tt f4) ?_ (fun z => ?_))⟩⟩
      · rw [m12]
        exact ⟨fun y => ⟨y.1, y.2, fun y2 => by omega⟩, fun y => ⟨y.1, y.2.1⟩⟩
      · rw [m12]
        refine ⟨fun y => ⟨y.1, y.2, fun _ v hv => ?_⟩, fun y => ⟨y.1, y.2.1⟩⟩
        have e : mid = lo := by omega
        rw [e] at hv
        have := y.2 v hv
        rw [e] at this
        exact this
      · rw [e2, Int.toNat_natCast]
        have q1 : mxB (fun v => 1 + mostF (μ 263) n v lo hi) (upsBy (μ 263) mid (μ 263 (295 + gn))) 0 ≤ 101 := (mxB_le _ _).2 ⟨by omega, fun v _ => by have := (fb v lo hi).2; omega⟩
        have q2 := ((mxB_le (f := fun v => 1 + mostF (μ 263) n v lo hi) (upsBy (μ 263) mid (μ 263 (295 + gn))) 0).1 (Int.le_refl _)).1
        exact xmax_in m12b ⟨by omega, by omega⟩
      · rw [e2, Int.toNat_natCast, Int.max_le, m12, mxB_le]
        refine ⟨fun y => ⟨y.1.1, y.1.2, fun _ => y.2.2⟩, fun y => ⟨⟨y.1, y.2.1⟩, Int.le_trans (fb lo mid hi).1 y.1, y.2.2 (by omega)⟩⟩
    · rw [Int.toNat_natCast] at k ⊢
      have old := (hs lo mid hi s1 s2 s3 vs gn (by omega))
      rw [en] at old
      have nb := nib_rng (μ 233 (slotN lo mid hi)) gn (by omega)
      have ev : nib (μ 233 (slotN lo mid hi)) gn = mostF (μ 263) (n + 1) lo mid hi + 1 := by
        rcases old with q | q
        · exact absurd (show nib (μ 233 (slotN lo mid hi)) gn ≤ 0 by omega) k
        · exact q
      have ev2 : xAnd (xUshr (μ 233 (slotN lo mid hi)) (4 * gn)) 15 - 1 = mostF (μ 263) (n + 1) lo mid hi := by
        show nib (μ 233 (slotN lo mid hi)) gn - 1 = _
        omega
      rw [ev2]
      exact ⟨⟨by omega, by omega⟩, hq μ (futS.rf hs)⟩
theorem s_mostFrom (n fuel : Nat) (hn : n < fuel) (g : Int) (a b c : Nat) (μ : xM) (Q : Int → xM → Prop) (h : iOpen μ) (h2 : iSit μ) (h3 : g + n = μ 263 4) (h4 : 0 ≤ g) (h5 : a ≤ 24) (h6 : b ≤ 24) (h7 : c ≤ 24) (h8 : vtF (μ 263) b c) (h9 : ∀ ν, futS μ ν → Q (mostF (μ 263) n a b c) ν) : tX0_mostFrom fuel g a b c μ Q := w_mostFrom n fuel hn g a b c μ Q h.w h2 h3 h4 h5 h6 h7 h8 h9
