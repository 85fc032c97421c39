/-! the reference's small readers -/
theorem tk_r (T : Nat → Int) (n a : Nat) : tkK T n a = 0 ∨ tkK T n a = 1 ∨ tkK T n a = 2 ∨ tkK T n a = 3 ∨ tkK T n a = 4 ∨ tkK T n a = 5 := by
  unfold tkK
  repeat' split
  all_goals simp
theorem rc_i (T : Nat → Int) (n a : Nat) : (rcK (tkK T n a) = 2 ↔ tkK T n a = 1) ∧ (rcK (tkK T n a) = 3 ↔ tkK T n a = 2) ∧ (rcK (tkK T n a) = 44 ↔ tkK T n a = 4) ∧ (rcK (tkK T n a) = 59 ↔ tkK T n a = 3) ∧ (rcK (tkK T n a) = 0 ↔ tkK T n a = 0) := by
  rcases tk_r T n a with h | h | h | h | h | h <;> rw [h] <;> decide
def gR (μ ν : xM) : Prop := (∀ k, k ≠ 260 → k ≠ 262 → k ≠ 264 → ν k = μ k) ∧ (∀ j, ¬ (4 ≤ j ∧ j ≤ 8) → ν 260 j = μ 260 j)
theorem gR.rf (μ : xM) : gR μ μ := ⟨fun _ _ _ _ => rfl, fun _ _ => rfl⟩
theorem gR.tt {μ ν ω : xM} (h : gR μ ν) (h2 : gR ν ω) : gR μ ω := ⟨fun k a b c => (h2.1 k a b c).trans (h.1 k a b c), fun j a => (h2.2 j a).trans (h.2 j a)⟩
theorem rS.g {μ ν : xM} (h : rS μ ν) : gR μ ν := ⟨fun k a b _ => h.1 k a b, h.2⟩
theorem gR.w {μ ν : xM} (h : gR μ ν) {j : Nat} {v : Int} : gR μ (wi ν 264 j v) := ⟨fun k a b c => by rw [← h.1 k a b c]; funext i; exact wi_cell c, fun i hi => by rw [wi_cell (by omega)]; exact h.2 i hi⟩
def flR (f : Int) (p : Nat) (μ ν : xM) : Prop := (∀ k, k ≠ 260 → k ≠ 262 → k ≠ 264 → ν k = μ k) ∧ (∀ j, ¬ (4 ≤ j ∧ j ≤ 10) → j ≠ 13 → ν 260 j = μ 260 j) ∧ ν 260 13 = 1 ∧ ν 260 9 = f ∧ ν 260 10 = p
theorem flR.p {f : Int} {p : Nat} {μ ν ω : xM} (h : flR f p ν ω) (g : gR μ ν) : flR f p μ ω := ⟨fun k a b c => (h.1 k a b c).trans (g.1 k a b c), fun j a b => (h.2.1 j a b).trans (g.2 j (by omega)), h.2.2⟩
theorem flR.w {f : Int} {p : Nat} {μ ν : xM} (h : flR f p μ ν) {j : Nat} {v : Int} : flR f p μ (wi ν 264 j v) := ⟨fun k a b c => by rw [← h.1 k a b c]; funext i; exact wi_cell c, fun i hi h13 => by rw [wi_cell (by omega)]; exact h.2.1 i hi h13, by rw [wi_cell (by omega)]; exact h.2.2.1, by rw [wi_cell (by omega)]; exact h.2.2.2.1, by rw [wi_cell (by omega)]; exact h.2.2.2.2⟩
theorem flR.d {f : Int} {p : Nat} {μ ν : xM} (h : flR f p μ ν) : ν 260 13 ≠ 0 := by rw [h.2.2.1]; decide
/-- once something is wrong -/
theorem d_wrong {f p : Int} {ν : xM} {Q : xM → Prop} (h : ν 260 13 ≠ 0) (hq : Q ν) : tX11_wrong f p ν Q := fun _ _ _ => ⟨fun z => absurd z h, fun _ => hq⟩
theorem d_isWord {i : Nat} {ν : xM} {Q : Int → xM → Prop} (h : ν 260 13 ≠ 0) (hq : Q 0 ν) : tX11_isWord i ν Q := fun _ => ⟨fun _ => hq, fun z => absurd z h⟩
theorem d_takes {i : Nat} {ν : xM} {Q : Int → xM → Prop} (h : ν 260 13 ≠ 0) (hq : Q 0 ν) : tX11_takes i ν Q := fun _ => d_isWord h (fun _ _ => ⟨fun z => absurd z (by decide), fun _ => hq⟩)
theorem d_must {i : Nat} {ν : xM} {Q : xM → Prop} (h : ν 260 13 ≠ 0) (hq : Q ν) : tX11_must i ν Q := fun _ => ⟨fun _ => hq, fun z => absurd z h⟩
theorem d_number {lo hi : Int} {ν : xM} {Q : Int → xM → Prop} (h : ν 260 13 ≠ 0) (hq : Q lo ν) : tX11_number lo hi ν Q := fun _ _ _ => ⟨fun z => absurd z h, fun _ => hq⟩
theorem d_told {i : Nat} {lo hi : Int} {ν : xM} {Q : Int → xM → Prop} (h : ν 260 13 ≠ 0) (hq : Q lo ν) : tX11_told i lo hi ν Q := fun _ _ _ => d_must h (fun _ => d_number h (fun _ _ => hq))
theorem r_wrong {f : Int} {p : Nat} {ν : xM} {Q : xM → Prop} (h : ν 260 13 = 0) (hq : ∀ ω, flR f p ν ω → Q ω) : tX11_wrong f p ν Q := by
  refine fun _ _ _ => ⟨fun _ => wl fun _ => wl fun _ => wl fun _ => hq _ ⟨fun k a b c => ?_, fun j a b => ?_, ?_, ?_, ?_⟩, fun z => absurd h z⟩
  · funext j; rw [wi_cell a, wi_cell a, wi_cell a]
  · rw [wi_place (by omega), wi_place (by omega), wi_place b]
  · rw [wi_place (by omega), wi_place (by omega), wi_self]
  · rw [wi_place (by omega), wi_self]
  · rw [wi_self]
theorem r_nx7 {T : Nat → Int} {n a : Nat} {ν : xM} {Q : xM → Prop} (t : tR T n a ν) (hq : ∀ ω, rS ν ω → tR T n (nxF T n a) ω → Q ω) : tX11_next ν Q := r_next t.1 t.2.2.2.1 (tkS7_le t.2.1).2.1 (fun ω s u => hq ω s u)
theorem r_isw {T : Nat → Int} {n a i : Nat} {ν : xM} {Q : Int → xM → Prop} (t : tR T n a ν) (h13 : ν 260 13 = 0) (h1 : isKw T n i a → Q 1 ν) (h0 : ¬ isKw T n i a → Q 0 ν) : tX11_isWord i ν Q := by
  obtain ⟨tp, an, e4, e5, e6, e8, e7⟩ := t
  have rc := rc_i T n a
  intro _
  refine ⟨fun z => absurd h13 z, fun _ => ?_⟩
  rw [e6]
  refine ⟨fun z => h0 (fun q => z (rc.1.2 q.1)), fun z => ?_⟩
  have k1 := rc.1.1 z
  have wr := wrd_in k1
  obtain ⟨w8, wl8⟩ := e8 k1
  rw [w8]
  refine ⟨fun el => ?_, fun z => h0 (fun q => z q.2.1)⟩
  refine rd2b (n := sLen i) (fun l b => (b = 1 ∧ ∀ k : Nat, (k : Int) < l → T (a + k) = sChr i k) ∨ (b = 0 ∧ ¬ isKw T n i a)) (by omega) (Or.inl ⟨rfl, fun k hk => by omega⟩) ?_
  rintro l b K l0 l1 hl hK
  obtain ⟨l, rfl⟩ : ∃ m : Nat, l = m := ⟨l.toNat, by omega⟩
  rw [w8]
  refine ⟨⟨by omega, by omega⟩, fun z => ⟨by rcases hl with q | q <;> omega, ?_⟩, fun z => ⟨by rcases hl with q | q <;> exact ⟨by omega, by omega⟩, fun b0 => hK 0 (by omega) (Or.inr ⟨rfl, ?_⟩), fun b0 => ⟨⟨by omega, by omega⟩, ⟨by omega, by omega⟩, ?_⟩⟩⟩
  · rcases hl with ⟨rfl, q⟩ | ⟨rfl, q⟩
    · exact h1 ⟨k1, el, fun k hk => q k (by omega)⟩
    · exact h0 q
  · rcases hl with q | q
    · omega
    · exact q.2
  · have hl1 := hl.resolve_right (fun q => b0 q.1)
    rw [Int.toNat_natCast, wl8 l (by omega)]
    refine ⟨fun q => hK 0 (by omega) (Or.inr ⟨rfl, fun y => q (y.2.2 l (by omega))⟩), fun q => hK 1 (by omega) (Or.inl ⟨rfl, fun k hk => ?_⟩)⟩
    by_cases e : k = l
    · rw [e]; exact q
    · exact hl1.2 k (by omega)
theorem r_must7 {T : Nat → Int} {n a i : Nat} {ν : xM} {Q : xM → Prop} {o : Nat → pO} (t : tR T n a ν) (h13 : ν 260 13 = 0) (h1 : ∀ ω, rS ν ω → tR T n (nxF T n a) ω → keyF T n i a o = o (nxF T n a) → Q ω) (h0 : ∀ ω, flR 1 a ν ω → keyF T n i a o = bd 1 a → Q ω) : tX11_must i ν Q := by
  intro _
  refine ⟨fun z => absurd h13 z, fun _ _ => r_isw t h13 (fun k _ _ => ⟨fun _ => r_nx7 t (fun ω s u _ _ _ => ⟨fun _ => h1 ω s u (cI_y k), fun z => absurd z (by decide)⟩), fun z => absurd z (by decide)⟩) (fun k _ _ => ⟨fun z => absurd z (by decide), fun _ _ _ => ⟨fun z => absurd z (by decide), fun _ => ?_⟩⟩)⟩
  rw [t.2.2.1]
  exact r_wrong h13 (fun ω f _ => h0 ω f (cI_n k))
theorem r_num7 {T : Nat → Int} {n a : Nat} {lo hi : Int} {ν : xM} {Q : Int → xM → Prop} {o : Int → Nat → pO} (t : tR T n a ν) (h13 : ν 260 13 = 0)
    (h1 : ∀ ω, rS ν ω → tR T n (nxF T n a) ω → lo ≤ wvl T n a → wvl T n a ≤ hi → numF T n lo hi a o = o (wvl T n a) (nxF T n a) → Q (wvl T n a) ω)
    (h0 : ∀ ω f, flR f a ν ω → numF T n lo hi a o = bd f a → Q lo ω) : tX11_number lo hi ν Q := by
  have rc := rc_i T n a
  intro _ _ _
  rw [t.2.2.2.2.1, t.2.2.1]
  refine ⟨fun _ => ⟨fun z => ?_, fun z => r_wrong h13 (fun ω f _ => h0 ω 1 f (cI_n (fun q => z (rc.2.1.2 q))))⟩, fun z => absurd h13 z⟩
  have k2 := rc.2.1.1 z
  have e7 : ν 260 7 = wvl T n a := t.2.2.2.2.2.2 k2
  rw [e7]
  have bad : ¬ (lo ≤ wvl T n a ∧ wvl T n a ≤ hi) → (fun r8 μ6 => (r8 = 0 ∨ r8 = 1) → xRan μ6 → (((r8 = 1 → tX11_next μ6 (fun μ11 => xRan μ11 → (Q (wvl T n a) μ11))) ∧ (r8 = 0 → tX11_wrong 4 (μ6 260 4) μ6 (fun μ14 => xRan μ14 → (Q lo μ14)))))) (0 : Int) ν := fun q _ _ => ⟨fun z => absurd z (by decide), fun _ => by rw [t.2.2.1]; exact r_wrong h13 (fun ω f _ => h0 ω 4 f (by unfold numF; rw [cI_y k2, cI_n q]))⟩
  exact s_within (fun a1 a2 _ _ => ⟨fun _ => r_nx7 t (fun ω s u _ => h1 ω s u a1 a2 (by unfold numF; rw [cI_y k2, cI_y ⟨a1, a2⟩])), fun z => absurd z (by decide)⟩) (fun q => bad (by omega))
