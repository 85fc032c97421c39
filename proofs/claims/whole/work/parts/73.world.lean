/-! THE WORLD: a list of cells by the memory -/
def xS (b : Nat) (μ : xM) (k j q : Nat) : Value := if q = 0 then iV (μ k j) else if q = 1 then .ref (b + (μ k j).toNat) else .ref (b + (q - 2))
def xF (b : Nat) (μ : xM) (k : Nat) (ks : List Nat) : List Value := (List.range ks.length).map (fun j => xS b μ k j (ks.getD j 0))
def xE (D : va_G) (b : Nat) (μ : xM) (k : Nat) : va_E := match lay k with
  | (0, c, ks) => .inr (c, xF b μ k ks)
  | (1, n, _) => .inl (D.1 100, n, .inl (fun j => Int32.ofInt (μ k j)))
  | (2, n, _) => .inl (D.1 101, n, .inl (fun j => Int32.ofInt (μ k j)))
  | (3, n, _) => .inl (D.1 102, n, .inr (.inl (fun j => Int64.ofInt (μ k j))))
  | (4, n, r) => .inl (D.1 103, n, .inr (.inr (.inr (.inr (fun j => some (b + (r.getD 0 0 + r.getD 1 0 * j)))))))
  | (_, n, r) => .inl (D.1 104, n, .inr (.inr (.inr (.inr (fun j => some (b + (r.getD 0 0 + r.getD 1 0 * j)))))))
def xWs (D : va_G) (b : Nat) (μ : xM) : va_W := (List.range 281).map (fun k => (b + k, xE D b μ k))
def xA (b : Nat) : Nat → Prop := fun q => b ≤ q
theorem xWs_at {D : va_G} {b : Nat} {μ : xM} {k : Nat} (h : k < 281) : (xWs D b μ)[k]? = some (b + k, xE D b μ k) := by
  simp [xWs, List.getElem?_map, List.getElem?_range h]
theorem xWs_of {D : va_G} {b : Nat} {μ : xM} {k : Nat} {q : Nat × va_E} (h : (xWs D b μ)[k]? = some q) : q = (b + k, xE D b μ k) ∧ k < 281 := by
  have hk : k < 281 := by
    have := (List.getElem?_eq_some_iff.mp h).1
    simpa [xWs] using this
  rw [xWs_at hk] at h
  exact ⟨(Option.some.inj h).symm, hk⟩
theorem xWs_D (D : va_G) (b : Nat) (μ : xM) : va_D (xA b) (xWs D b μ) := by
  refine ⟨fun i j p q hi hj e => ?_, fun k q hk => ?_⟩
  · obtain ⟨rfl, -⟩ := xWs_of hi
    obtain ⟨rfl, -⟩ := xWs_of hj
    exact Nat.add_left_cancel e
  · obtain ⟨rfl, -⟩ := xWs_of hk
    exact Nat.le_add_right _ _
theorem xE_congr {D : va_G} {b : Nat} {μ μ' : xM} {k : Nat} (h : ∀ j, μ k j = μ' k j) : xE D b μ k = xE D b μ' k := by
  unfold xE xF xS
  simp only [h]
theorem xWs_set {D : va_G} {b : Nat} {μ : xM} {k i : Nat} {v : Int} {e : va_E} (he : xE D b (wi μ k i v) k = e) : (xWs D b μ).set k (b + k, e) = xWs D b (wi μ k i v) := by
  apply List.ext_getElem?
  intro n
  rw [List.getElem?_set]
  by_cases hn : n < 281
  · rw [xWs_at hn, xWs_at hn]
    by_cases e1 : k = n
    · subst e1
      rw [if_pos rfl, if_pos (by simpa [xWs] using hn), he]
    · rw [if_neg e1, xE_congr (fun j => (wi_cell (Ne.symm e1)).symm)]
  · have h1 : ∀ ν : xM, (xWs D b ν)[n]? = none := fun ν => List.getElem?_eq_none (by simpa [xWs] using hn)
    rw [h1, h1]
    split
    · rename_i e1
      subst e1
      rw [if_neg (by simpa [xWs] using hn)]
    · rfl
theorem xF_get {b : Nat} {μ : xM} {k : Nat} {ks : List Nat} {j q : Nat} (h : ks[j]? = some q) : (xF b μ k ks)[j]? = some (xS b μ k j q) := by
  have hj : j < ks.length := (List.getElem?_eq_some_iff.mp h).1
  simp [xF, List.getElem?_map, List.getElem?_range hj, h]
theorem xF_len {b : Nat} {μ : xM} {k : Nat} {ks : List Nat} : (xF b μ k ks).length = ks.length := by simp [xF]
theorem xF_set {b : Nat} {μ : xM} {k : Nat} {ks : List Nat} {j q : Nat} {v : Int} (h : ks[j]? = some q) : (xF b μ k ks).set j (xS b (wi μ k j v) k j q) = xF b (wi μ k j v) k ks := by
  apply List.ext_getElem?
  intro n
  rw [List.getElem?_set]
  by_cases hn : n < ks.length
  · have hq : ks[n]? = some ks[n] := List.getElem?_eq_getElem hn
    rw [xF_get hq, xF_get hq]
    by_cases e : j = n
    · subst e
      rw [if_pos rfl, if_pos (by rw [xF_len]; exact hn)]
      rw [hq] at h
      rw [Option.some.inj h]
    · rw [if_neg e]
      unfold xS
      rw [wi_place (Ne.symm e)]
  · have h1 : ∀ ν : xM, (xF b ν k ks)[n]? = none := fun ν => List.getElem?_eq_none (by rw [xF_len]; omega)
    rw [h1, h1]
    split
    · rename_i e
      subst e
      rw [if_neg (by rw [xF_len]; exact hn)]
    · rfl
/-! the context of a call: the launch, the classes' numbers, where the world begins, where the texts are -/
abbrev xX : Type := Launch × va_G × Nat × ((Nat → Nat) × (Nat → Nat))
abbrev xY : Type := Room × String × ByteArray × Nat × Option FieldType × (State → Code → Prop)
def xTb : List Cond := lw_tbl.filter goodWord
def xTy (D : va_G) : List (ClassId × FieldType) := [(D.1 100, .int), (D.1 101, .boolean), (D.1 102, .long), (D.1 103, .object RX4), (D.1 104, .array .int)]
def xR (x : xX) (μ : xM) (H : Heap) : Prop := va_P x.2.1 vwCl (xWs x.2.1 x.2.2.1 μ) H ∧ xRan μ
def xU (x : xX) (U : State) : Prop := va_K x.2.1 vwCl (xTy x.2.1) U ∧ (∀ q ∈ xSTab, vk_R q.1 q.2.1 q.2.2.1 (x.2.2.2.1 q.2.2.2) U) ∧ vk_S 13 xSLen xSByt x.2.2.2.1 x.2.2.2.2 (xA x.2.2.1) U U.heap ∧ va_Z "java/lang/String" "COMPACT_STRINGS" "Z" (.int 1) (xA x.2.2.1) U U.heap ∧ va_Zq "jdk/internal/util/Preconditions" "SIOOBE_FORMATTER" "Ljava/util/function/BiFunction;" (xA x.2.2.1) U U.heap
def xRm (d : Nat) : Room := { frames := d, cells := 0, slots := 0, locals := 40 * d }
def xC (x : xX) (y : xY) (p : Program) (s : State) (m : MethodId) (args : Array Value) (meth : Method) (c : Code) : Prop :=
  p.tables.exec = Jvm.exec ∧ c.code = y.2.2.1 ∧ meth.sig.returnType = y.2.2.2.2.1 ∧ c.maxLocals = y.2.2.2.1 ∧ s.vm.findClass y.2.1 = some m.cls ∧ (∀ w ∈ xTb, w.before args s = true) ∧ meth.locks = false ∧ xU x s ∧ y.2.2.2.2.2 s c
/-- the machine at pc, with these locals, this stack and this memory, comes to the end that is told -/
def xGr (x : xX) (y : xY) (cs : Nat × Nat) (Qf : List Frame → Array Value → State → State → Prop) (ρ : Heap → Prop) (pc : Nat) (lv : List (Nat × Value)) (st : List Value) : Prop :=
  ∀ (p : Program) (e : Env) (s : State) (m : MethodId) (args : Array Value) (below : List Frame) (meth : Method) (c : Code) (H : Heap) (locs : List Loc) (ls : Array Slot),
    xC x y p s m args meth c → cs.1 ≤ y.1.cells ∧ cs.2 ≤ y.1.slots → ρ H → va_S (xA x.2.2.1) s.heap H locs → lv_has ls y.2.2.2.1 lv →
    W p x.1 e y.1 s m args below meth c H locs cs.1 cs.2 (Qf below args s) (F0 m pc ls st)
abbrev xG (x : xX) (y : xY) (cs : Nat × Nat) (Qf : List Frame → Array Value → State → State → Prop) (pc : Nat) (lv : List (Nat × Value)) (st : List Value) (μ : xM) : Prop := xGr x y cs Qf (xR x μ) pc lv st
def xFin (x : xX) (Qc : Array Value → State → Outcome → State → Prop) : List Frame → Array Value → State → State → Prop := fun below args s => MQ below Qc args s 0 0 (xA x.2.2.1)
abbrev xW (x : xX) (y : xY) (Qc : Array Value → State → Outcome → State → Prop) (pc : Nat) (lv : List (Nat × Value)) (st : List Value) (μ : xM) : Prop := xG x y (0, 0) (xFin x Qc) pc lv st μ
theorem xRoom {d d' : Nat} (h : d + 1 ≤ d') : d + 1 ≤ (xRm d').frames ∧ 40 * d + 40 ≤ (xRm d').locals := ⟨h, by show _ ≤ 40 * d'; omega⟩
theorem xRoom1 {d' : Nat} (h : 1 ≤ d') : 1 ≤ (xRm d').frames ∧ 40 ≤ (xRm d').locals := ⟨h, by show _ ≤ 40 * d'; omega⟩
theorem xU_moved {x : xX} {s U : State} {H : Heap} {locs : List Loc} (h : xU x s) (hS : va_S (xA x.2.2.1) s.heap H locs) (hH : U.heap = H) (hW : s.WarmedH U.vm) : xU x U := by
  refine ⟨va_K.moved hW.alike h.1, fun q hq => vk_R.warm hW (h.2.1 q hq), ?_⟩
  rw [hH]
  exact ⟨vk_S.moved hW.alike (h.2.2.1.kept hS.2.1), va_Z.moved hW.alike (va_Z.kept h.2.2.2.1 hS.2.1), va_Zq.moved hW.alike (va_Zq.kept h.2.2.2.2 hS.2.1)⟩
theorem xTb_in {w : Cond} (h : w ∈ lw_tbl) (hg : goodWord w = true) : w ∈ xTb := List.mem_filter.mpr ⟨h, hg⟩
theorem xTb_good {y : MethodName} {bytes : ByteArray} {n : Nat} {ret : Option FieldType} (h : Cond.code y bytes n ret ∈ lw_tbl) : GoodIn xTb (Cond.code y bytes n ret :: xTb) := by
  intro w hw
  rcases List.mem_cons.mp hw with rfl | hw
  · have hg : goodWord (Cond.code y bytes n ret) = true := rfl
    exact ⟨xTb_in h hg, good_of_word hg⟩
  · exact ⟨hw, good_of_word (List.mem_filter.mp hw).2⟩
