set_option maxRecDepth 100000 in
set_option maxHeartbeats 4000000 in
theorem xl_22 (x : xX) (bS L : Nat) (xs : Nat → Int32) (cs : Nat × Nat) (Qf : List Frame → Array Value → State → State → Prop) (i : Int) (hi0 : 0 ≤ i) (hiL : i + 6 ≤ L) (hL : L ≤ 3072) (μ : xM) (K : xM → Prop) (hK : ∀ ν : xM, K ν → xG x (lY bS L xs x) cs Qf 1413 [(0, .ref bS), (1, .ref (x.2.2.1 + 0)), (2, .ref (x.2.2.1 + 260)), (3, .ref (x.2.2.1 + 280)), (4, iV i)] [] ν) (h : tl_22 (scOf xs) i μ K) : xG x (lY bS L xs x) cs Qf 834 [(0, .ref bS), (1, .ref (x.2.2.1 + 0)), (2, .ref (x.2.2.1 + 260)), (3, .ref (x.2.2.1 + 280)), (4, iV i)] [] μ := by
  have hi : xIn i := ⟨by omega, by omega⟩
  unfold tl_22 at h
  refine x_aload_n 1 rfl dL_law_834 ?_
  refine x_callVz (As := []) (rest := []) cal_X10_stand ins_X10_stand sel_X10_stand ly0 (by decide) rfl (xX10_stand x  _ _  h) rfl ml_L_113 ⟨Nat.le_of_ble_eq_true rfl, Nat.le_of_ble_eq_true rfl⟩ (Nat.le_of_ble_eq_true rfl) dL_law_835 (fun r201 μ199 i202 n200 h => ?_)
  have h := h i202 n200
  refine x_aload_n 2 rfl dL_law_838 ?_
  refine x_callVz (As := []) (rest := [iV r201]) cal_X11_stand ins_X11_stand sel_X11_stand ly260 (by decide) rfl (xX11_stand x  _ _  h) rfl ml_L_117 ⟨Nat.le_of_ble_eq_true rfl, Nat.le_of_ble_eq_true rfl⟩ (Nat.le_of_ble_eq_true rfl) dL_law_839 (fun r205 μ203 i206 n204 h => ?_)
  have h := h i206 n204
  obtain ⟨c207, h⟩ := h
  refine x_icmpeq (tgt := 1413) (xIz i202) (xIz i206) dL_law_842 (by decide) (fun _ => ?_) (fun k => absurd c207 k)
  exact hK _ h
set_option maxRecDepth 100000 in
set_option maxHeartbeats 4000000 in
theorem xl_23 (x : xX) (bS L : Nat) (xs : Nat → Int32) (cs : Nat × Nat) (Qf : List Frame → Array Value → State → State → Prop) (i : Int) (hi0 : 0 ≤ i) (hiL : i + 6 ≤ L) (hL : L ≤ 3072) (μ : xM) (K : xM → Prop) (hK : ∀ ν : xM, K ν → xG x (lY bS L xs x) cs Qf 1413 [(0, .ref bS), (1, .ref (x.2.2.1 + 0)), (2, .ref (x.2.2.1 + 260)), (3, .ref (x.2.2.1 + 280)), (4, iV i)] [] ν) (h : tl_23 (scOf xs) i μ K) : xG x (lY bS L xs x) cs Qf 847 [(0, .ref bS), (1, .ref (x.2.2.1 + 0)), (2, .ref (x.2.2.1 + 260)), (3, .ref (x.2.2.1 + 280)), (4, iV i)] [] μ := by
  have hi : xIn i := ⟨by omega, by omega⟩
  unfold tl_23 at h
  refine x_aload_n 1 rfl dL_law_847 ?_
  refine x_callVi (As := []) (rest := []) cal_X10_can ins_X10_can sel_X10_can ly0 (by decide) rfl (xX10_can x  _ _  h) rfl ml_L_118 ⟨Nat.le_of_ble_eq_true rfl, Nat.le_of_ble_eq_true rfl⟩ (Nat.le_of_ble_eq_true rfl) dL_law_848 (fun r210 μ208 i211 n209 h => ?_)
  have h := h i211 n209
  refine x_aload_n 2 rfl dL_law_851 ?_
  refine x_callVi (As := []) (rest := [iV r210]) cal_X11_can ins_X11_can sel_X11_can ly260 (by decide) rfl (xX11_can x  _ _  h) rfl ml_L_121 ⟨Nat.le_of_ble_eq_true rfl, Nat.le_of_ble_eq_true rfl⟩ (Nat.le_of_ble_eq_true rfl) dL_law_852 (fun r214 μ212 i215 n213 h => ?_)
  have h := h i215 n213
  obtain ⟨c216, h⟩ := h
  refine x_icmpeq (tgt := 1413) i211 i215 dL_law_855 (by decide) (fun _ => ?_) (fun k => absurd c216 k)
  exact hK _ h
set_option maxRecDepth 100000 in
set_option maxHeartbeats 4000000 in
theorem xl_24 (x : xX) (bS L : Nat) (xs : Nat → Int32) (cs : Nat × Nat) (Qf : List Frame → Array Value → State → State → Prop) (i : Int) (hi0 : 0 ≤ i) (hiL : i + 6 ≤ L) (hL : L ≤ 3072) (μ : xM) (K : xM → Prop) (hK : ∀ ν : xM, K ν → xG x (lY bS L xs x) cs Qf 1413 [(0, .ref bS), (1, .ref (x.2.2.1 + 0)), (2, .ref (x.2.2.1 + 260)), (3, .ref (x.2.2.1 + 280)), (4, iV i)] [] ν) (h : tl_24 (scOf xs) i μ K) : xG x (lY bS L xs x) cs Qf 860 [(0, .ref bS), (1, .ref (x.2.2.1 + 0)), (2, .ref (x.2.2.1 + 260)), (3, .ref (x.2.2.1 + 280)), (4, iV i)] [] μ := by
  have hi : xIn i := ⟨by omega, by omega⟩
  unfold tl_24 at h
  refine x_aload_n 1 rfl dL_law_860 ?_
  refine x_aload_n 0 rfl dL_law_861 ?_
  refine x_iload 4 rfl dL_law_862 ?_
  refine x_iconst dL_law_864 ?_
  refine x_iadd dL_law_865 ?_
  refine x_scr (j := i + 1) (by omega) (by omega) ⟨by omega, by omega⟩ dL_law_866 ?_
  refine x_callVi (As := [iV (scOf xs (i + 1))]) (rest := []) cal_X10_table ins_X10_table sel_X10_table ly0 (by decide) rfl (xX10_table x (scOf xs (i + 1)) _ _ (scOf_in _ _) h) rfl ml_L_122 ⟨Nat.le_of_ble_eq_true rfl, Nat.le_of_ble_eq_true rfl⟩ (Nat.le_of_ble_eq_true rfl) dL_law_867 (fun r219 μ217 i220 n218 h => ?_)
  have h := h i220 n218
  refine x_aload_n 2 rfl dL_law_870 ?_
  refine x_aload_n 0 rfl dL_law_871 ?_
  refine x_iload 4 rfl dL_law_872 ?_
  refine x_iconst dL_law_874 ?_
  refine x_iadd dL_law_875 ?_
  refine x_scr (j := i + 1) (by omega) (by omega) ⟨by omega, by omega⟩ dL_law_876 ?_
  refine x_callVi (As := [iV (scOf xs (i + 1))]) (rest := [iV r219]) cal_X11_table ins_X11_table sel_X11_table ly260 (by decide) rfl (xX11_table x (scOf xs (i + 1)) _ _ (scOf_in _ _) h) rfl ml_L_125 ⟨Nat.le_of_ble_eq_true rfl, Nat.le_of_ble_eq_true rfl⟩ (Nat.le_of_ble_eq_true rfl) dL_law_877 (fun r223 μ221 i224 n222 h => ?_)
  have h := h i224 n222
  obtain ⟨c225, h⟩ := h
  refine x_icmpeq (tgt := 1413) i220 i224 dL_law_880 (by decide) (fun _ => ?_) (fun k => absurd c225 k)
  exact hK _ h
set_option maxRecDepth 100000 in
set_option maxHeartbeats 4000000 in
theorem xl_25 (x : xX) (bS L : Nat) (xs : Nat → Int32) (cs : Nat × Nat) (Qf : List Frame → Array Value → State → State → Prop) (i : Int) (hi0 : 0 ≤ i) (hiL : i + 6 ≤ L) (hL : L ≤ 3072) (μ : xM) (K : xM → Prop) (hK : ∀ ν : xM, K ν → xG x (lY bS L xs x) cs Qf 1413 [(0, .ref bS), (1, .ref (x.2.2.1 + 0)), (2, .ref (x.2.2.1 + 260)), (3, .ref (x.2.2.1 + 280)), (4, iV i)] [] ν) (h : tl_25 (scOf xs) i μ K) : xG x (lY bS L xs x) cs Qf 885 [(0, .ref bS), (1, .ref (x.2.2.1 + 0)), (2, .ref (x.2.2.1 + 260)), (3, .ref (x.2.2.1 + 280)), (4, iV i)] [] μ := by
  have hi : xIn i := ⟨by omega, by omega⟩
  unfold tl_25 at h
  refine x_aload_n 1 rfl dL_law_885 ?_
  refine x_callVi (As := []) (rest := []) cal_X10_standing ins_X10_standing sel_X10_standing ly0 (by decide) rfl (xX10_standing x  _ _  h) rfl ml_L_126 ⟨Nat.le_of_ble_eq_true rfl, Nat.le_of_ble_eq_true rfl⟩ (Nat.le_of_ble_eq_true rfl) dL_law_886 (fun r228 μ226 i229 n227 h => ?_)
  have h := h i229 n227
  refine x_aload_n 2 rfl dL_law_889 ?_
  refine x_callVi (As := []) (rest := [iV r228]) cal_X11_standing ins_X11_standing sel_X11_standing ly260 (by decide) rfl (xX11_standing x  _ _  h) rfl ml_L_129 ⟨Nat.le_of_ble_eq_true rfl, Nat.le_of_ble_eq_true rfl⟩ (Nat.le_of_ble_eq_true rfl) dL_law_890 (fun r232 μ230 i233 n231 h => ?_)
  have h := h i233 n231
  obtain ⟨c234, h⟩ := h
  refine x_icmpeq (tgt := 1413) i229 i233 dL_law_893 (by decide) (fun _ => ?_) (fun k => absurd c234 k)
  exact hK _ h
set_option maxRecDepth 100000 in
set_option maxHeartbeats 4000000 in
theorem xl_26 (x : xX) (bS L : Nat) (xs : Nat → Int32) (cs : Nat × Nat) (Qf : List Frame → Array Value → State → State → Prop) (i : Int) (hi0 : 0 ≤ i) (hiL : i + 6 ≤ L) (hL : L ≤ 3072) (μ : xM) (K : xM → Prop) (hK : ∀ ν : xM, K ν → xG x (lY bS L xs x) cs Qf 1413 [(0, .ref bS), (1, .ref (x.2.2.1 + 0)), (2, .ref (x.2.2.1 + 260)), (3, .ref (x.2.2.1 + 280)), (4, iV i)] [] ν) (h : tl_26 (scOf xs) i μ K) : xG x (lY bS L xs x) cs Qf 898 [(0, .ref bS), (1, .ref (x.2.2.1 + 0)), (2, .ref (x.2.2.1 + 260)), (3, .ref (x.2.2.1 + 280)), (4, iV i)] [] μ := by
  have hi : xIn i := ⟨by omega, by omega⟩
  unfold tl_26 at h
  refine x_aload_n 1 rfl dL_law_898 ?_
  refine x_callVi (As := []) (rest := []) cal_X10_ever ins_X10_ever sel_X10_ever ly0 (by decide) rfl (xX10_ever x  _ _  h) rfl ml_L_130 ⟨Nat.le_of_ble_eq_true rfl, Nat.le_of_ble_eq_true rfl⟩ (Nat.le_of_ble_eq_true rfl) dL_law_899 (fun r237 μ235 i238 n236 h => ?_)
  have h := h i238 n236
  refine x_aload_n 2 rfl dL_law_902 ?_
  refine x_callVi (As := []) (rest := [iV r237]) cal_X11_ever ins_X11_ever sel_X11_ever ly260 (by decide) rfl (xX11_ever x  _ _  h) rfl ml_L_133 ⟨Nat.le_of_ble_eq_true rfl, Nat.le_of_ble_eq_true rfl⟩ (Nat.le_of_ble_eq_true rfl) dL_law_903 (fun r241 μ239 i242 n240 h => ?_)
  have h := h i242 n240
  obtain ⟨c243, h⟩ := h
  refine x_icmpeq (tgt := 1413) i238 i242 dL_law_906 (by decide) (fun _ => ?_) (fun k => absurd c243 k)
  exact hK _ h
set_option maxRecDepth 100000 in
set_option maxHeartbeats 4000000 in
theorem xl_27 (x : xX) (bS L : Nat) (xs : Nat → Int32) (cs : Nat × Nat) (Qf : List Frame → Array Value → State → State → Prop) (i : Int) (hi0 : 0 ≤ i) (hiL : i + 6 ≤ L) (hL : L ≤ 3072) (μ : xM) (K : xM → Prop) (hK : ∀ ν : xM, K ν → xG x (lY bS L xs x) cs Qf 1413 [(0, .ref bS), (1, .ref (x.2.2.1 + 0)), (2, .ref (x.2.2.1 + 260)), (3, .ref (x.2.2.1 + 280)), (4, iV i)] [] ν) (h : tl_27 (scOf xs) i μ K) : xG x (lY bS L xs x) cs Qf 911 [(0, .ref bS), (1, .ref (x.2.2.1 + 0)), (2, .ref (x.2.2.1 + 260)), (3, .ref (x.2.2.1 + 280)), (4, iV i)] [] μ := by
  have hi : xIn i := ⟨by omega, by omega⟩
  unfold tl_27 at h
  refine x_aload_n 1 rfl dL_law_911 ?_
  refine x_aload_n 0 rfl dL_law_912 ?_
  refine x_iload 4 rfl dL_law_913 ?_
  refine x_iconst dL_law_915 ?_
  refine x_iadd dL_law_916 ?_
  refine x_scr (j := i + 1) (by omega) (by omega) ⟨by omega, by omega⟩ dL_law_917 ?_
  refine x_callVi (As := [iV (scOf xs (i + 1))]) (rest := []) cal_X10_rises ins_X10_rises sel_X10_rises ly0 (by decide) rfl (xX10_rises x (scOf xs (i + 1)) _ _ (scOf_in _ _) h) rfl ml_L_134 ⟨Nat.le_of_ble_eq_true rfl, Nat.le_of_ble_eq_true rfl⟩ (Nat.le_of_ble_eq_true rfl) dL_law_918 (fun r246 μ244 i247 n245 h => ?_)
  have h := h i247 n245
  refine x_aload_n 2 rfl dL_law_921 ?_
  refine x_aload_n 0 rfl dL_law_922 ?_
  refine x_iload 4 rfl dL_law_923 ?_
  refine x_iconst dL_law_925 ?_
  refine x_iadd dL_law_926 ?_
  refine x_scr (j := i + 1) (by omega) (by omega) ⟨by omega, by omega⟩ dL_law_927 ?_
  refine x_callVi (As := [iV (scOf xs (i + 1))]) (rest := [iV r246]) cal_X11_rises ins_X11_rises sel_X11_rises ly260 (by decide) rfl (xX11_rises x (scOf xs (i + 1)) _ _ (scOf_in _ _) h) rfl ml_L_137 ⟨Nat.le_of_ble_eq_true rfl, Nat.le_of_ble_eq_true rfl⟩ (Nat.le_of_ble_eq_true rfl) dL_law_928 (fun r250 μ248 i251 n249 h => ?_)
  have h := h i251 n249
  obtain ⟨c252, h⟩ := h
  refine x_icmpeq (tgt := 1413) i247 i251 dL_law_931 (by decide) (fun _ => ?_) (fun k => absurd c252 k)
  exact hK _ h
set_option maxRecDepth 100000 in
set_option maxHeartbeats 4000000 in
theorem xl_28 (x : xX) (bS L : Nat) (xs : Nat → Int32) (cs : Nat × Nat) (Qf : List Frame → Array Value → State → State → Prop) (i : Int) (hi0 : 0 ≤ i) (hiL : i + 6 ≤ L) (hL : L ≤ 3072) (μ : xM) (K : xM → Prop) (hK : ∀ ν : xM, K ν → xG x (lY bS L xs x) cs Qf 1413 [(0, .ref bS), (1, .ref (x.2.2.1 + 0)), (2, .ref (x.2.2.1 + 260)), (3, .ref (x.2.2.1 + 280)), (4, iV i)] [] ν) (h : tl_28 (scOf xs) i μ K) : xG x (lY bS L xs x) cs Qf 936 [(0, .ref bS), (1, .ref (x.2.2.1 + 0)), (2, .ref (x.2.2.1 + 260)), (3, .ref (x.2.2.1 + 280)), (4, iV i)] [] μ := by
  have hi : xIn i := ⟨by omega, by omega⟩
  unfold tl_28 at h
  refine x_aload_n 1 rfl dL_law_936 ?_
  refine x_aload_n 0 rfl dL_law_937 ?_
  refine x_iload 4 rfl dL_law_938 ?_
  refine x_iconst dL_law_940 ?_
  refine x_iadd dL_law_941 ?_
  refine x_scr (j := i + 1) (by omega) (by omega) ⟨by omega, by omega⟩ dL_law_942 ?_
  refine x_aload_n 0 rfl dL_law_943 ?_
  refine x_iload 4 rfl dL_law_944 ?_
  refine x_iconst dL_law_946 ?_
  refine x_iadd dL_law_947 ?_
  refine x_scr (j := i + 2) (by omega) (by omega) ⟨by omega, by omega⟩ dL_law_948 ?_
  refine x_aload_n 0 rfl dL_law_949 ?_
  refine x_iload 4 rfl dL_law_950 ?_
  refine x_iconst dL_law_952 ?_
  refine x_iadd dL_law_953 ?_
  refine x_scr (j := i + 3) (by omega) (by omega) ⟨by omega, by omega⟩ dL_law_954 ?_
  refine x_aload_n 0 rfl dL_law_955 ?_
  refine x_iload 4 rfl dL_law_956 ?_
  refine x_iconst dL_law_958 ?_
  refine x_iadd dL_law_959 ?_
  refine x_scr (j := i + 4) (by omega) (by omega) ⟨by omega, by omega⟩ dL_law_960 ?_
  refine x_callVi (As := [iV (scOf xs (i + 1)), iV (scOf xs (i + 2)), iV (scOf xs (i + 3)), iV (scOf xs (i + 4))]) (rest := []) cal_X10_steps ins_X10_steps sel_X10_steps ly0 (by decide) rfl (xX10_steps x (scOf xs (i + 1)) (scOf xs (i + 2)) (scOf xs (i + 3)) (scOf xs (i + 4)) _ _ (scOf_in _ _) (scOf_in _ _) (scOf_in _ _) (scOf_in _ _) h) rfl ml_L_138 ⟨Nat.le_of_ble_eq_true rfl, Nat.le_of_ble_eq_true rfl⟩ (Nat.le_of_ble_eq_true rfl) dL_law_961 (fun r255 μ253 i256 n254 h => ?_)
  have h := h i256 n254
  refine x_aload_n 2 rfl dL_law_964 ?_
  refine x_aload_n 0 rfl dL_law_965 ?_
  refine x_iload 4 rfl dL_law_966 ?_
  refine x_iconst dL_law_968 ?_
  refine x_iadd dL_law_969 ?_
  refine x_scr (j := i + 1) (by omega) (by omega) ⟨by omega, by omega⟩ dL_law_970 ?_
  refine x_aload_n 0 rfl dL_law_971 ?_
  refine x_iload 4 rfl dL_law_972 ?_
  refine x_iconst dL_law_974 ?_
  refine x_iadd dL_law_975 ?_
  refine x_scr (j := i + 2) (by omega) (by omega) ⟨by omega, by omega⟩ dL_law_976 ?_
  refine x_aload_n 0 rfl dL_law_977 ?_
  refine x_iload 4 rfl dL_law_978 ?_
  refine x_iconst dL_law_980 ?_
  refine x_iadd dL_law_981 ?_
  refine x_scr (j := i + 3) (by omega) (by omega) ⟨by omega, by omega⟩ dL_law_982 ?_
  refine x_aload_n 0 rfl dL_law_983 ?_
  refine x_iload 4 rfl dL_law_984 ?_
  refine x_iconst dL_law_986 ?_
  refine x_iadd dL_law_987 ?_
  refine x_scr (j := i + 4) (by omega) (by omega) ⟨by omega, by omega⟩ dL_law_988 ?_
  refine x_callVi (As := [iV (scOf xs (i + 1)), iV (scOf xs (i + 2)), iV (scOf xs (i + 3)), iV (scOf xs (i + 4))]) (rest := [iV r255]) cal_X11_steps ins_X11_steps sel_X11_steps ly260 (by decide) rfl (xX11_steps x (scOf xs (i + 1)) (scOf xs (i + 2)) (scOf xs (i + 3)) (scOf xs (i + 4)) _ _ (scOf_in _ _) (scOf_in _ _) (scOf_in _ _) (scOf_in _ _) h) rfl ml_L_142 ⟨Nat.le_of_ble_eq_true rfl, Nat.le_of_ble_eq_true rfl⟩ (Nat.le_of_ble_eq_true rfl) dL_law_989 (fun r259 μ257 i260 n258 h => ?_)
  have h := h i260 n258
  obtain ⟨c261, h⟩ := h
  refine x_icmpeq (tgt := 1413) i256 i260 dL_law_992 (by decide) (fun _ => ?_) (fun k => absurd c261 k)
  exact hK _ h
set_option maxRecDepth 100000 in
set_option maxHeartbeats 4000000 in
theorem xl_29 (x : xX) (bS L : Nat) (xs : Nat → Int32) (cs : Nat × Nat) (Qf : List Frame → Array Value → State → State → Prop) (i : Int) (hi0 : 0 ≤ i) (hiL : i + 6 ≤ L) (hL : L ≤ 3072) (μ : xM) (K : xM → Prop) (hK : ∀ ν : xM, K ν → xG x (lY bS L xs x) cs Qf 1413 [(0, .ref bS), (1, .ref (x.2.2.1 + 0)), (2, .ref (x.2.2.1 + 260)), (3, .ref (x.2.2.1 + 280)), (4, iV i)] [] ν) (h : tl_29 (scOf xs) i μ K) : xG x (lY bS L xs x) cs Qf 997 [(0, .ref bS), (1, .ref (x.2.2.1 + 0)), (2, .ref (x.2.2.1 + 260)), (3, .ref (x.2.2.1 + 280)), (4, iV i)] [] μ := by
  have hi : xIn i := ⟨by omega, by omega⟩
  unfold tl_29 at h
  refine x_aload_n 1 rfl dL_law_997 ?_
  refine x_callVi (As := []) (rest := []) cal_X10_able ins_X10_able sel_X10_able ly0 (by decide) rfl (xX10_able x  _ _  h) rfl ml_L_143 ⟨Nat.le_of_ble_eq_true rfl, Nat.le_of_ble_eq_true rfl⟩ (Nat.le_of_ble_eq_true rfl) dL_law_998 (fun r264 μ262 i265 n263 h => ?_)
  have h := h i265 n263
  refine x_aload_n 2 rfl dL_law_1001 ?_
  refine x_callVi (As := []) (rest := [iV r264]) cal_X11_able ins_X11_able sel_X11_able ly260 (by decide) rfl (xX11_able x  _ _  h) rfl ml_L_146 ⟨Nat.le_of_ble_eq_true rfl, Nat.le_of_ble_eq_true rfl⟩ (Nat.le_of_ble_eq_true rfl) dL_law_1002 (fun r268 μ266 i269 n267 h => ?_)
  have h := h i269 n267
  obtain ⟨c270, h⟩ := h
  refine x_icmpeq (tgt := 1413) i265 i269 dL_law_1005 (by decide) (fun _ => ?_) (fun k => absurd c270 k)
  exact hK _ h
set_option maxRecDepth 100000 in
set_option maxHeartbeats 4000000 in
theorem xl_30 (x : xX) (bS L : Nat) (xs : Nat → Int32) (cs : Nat × Nat) (Qf : List Frame → Array Value → State → State → Prop) (i : Int) (hi0 : 0 ≤ i) (hiL : i + 6 ≤ L) (hL : L ≤ 3072) (μ : xM) (K : xM → Prop) (hK : ∀ ν : xM, K ν → xG x (lY bS L xs x) cs Qf 1413 [(0, .ref bS), (1, .ref (x.2.2.1 + 0)), (2, .ref (x.2.2.1 + 260)), (3, .ref (x.2.2.1 + 280)), (4, iV i)] [] ν) (h : tl_30 (scOf xs) i μ K) : xG x (lY bS L xs x) cs Qf 1010 [(0, .ref bS), (1, .ref (x.2.2.1 + 0)), (2, .ref (x.2.2.1 + 260)), (3, .ref (x.2.2.1 + 280)), (4, iV i)] [] μ := by
  have hi : xIn i := ⟨by omega, by omega⟩
  unfold tl_30 at h
  refine x_aload_n 1 rfl dL_law_1010 ?_
  refine x_aload_n 0 rfl dL_law_1011 ?_
  refine x_iload 4 rfl dL_law_1012 ?_
  refine x_iconst dL_law_1014 ?_
  refine x_iadd dL_law_1015 ?_
  refine x_scr (j := i + 1) (by omega) (by omega) ⟨by omega, by omega⟩ dL_law_1016 ?_
  refine x_callVi (As := [iV (scOf xs (i + 1))]) (rest := []) cal_X10_sits ins_X10_sits sel_X10_sits ly0 (by decide) rfl (xX10_sits x (scOf xs (i + 1)) _ _ (scOf_in _ _) h) rfl ml_L_147 ⟨Nat.le_of_ble_eq_true rfl, Nat.le_of_ble_eq_true rfl⟩ (Nat.le_of_ble_eq_true rfl) dL_law_1017 (fun r273 μ271 i274 n272 h => ?_)
  have h := h i274 n272
  refine x_aload_n 2 rfl dL_law_1020 ?_
  refine x_aload_n 0 rfl dL_law_1021 ?_
  refine x_iload 4 rfl dL_law_1022 ?_
  refine x_iconst dL_law_1024 ?_
  refine x_iadd dL_law_1025 ?_
  refine x_scr (j := i + 1) (by omega) (by omega) ⟨by omega, by omega⟩ dL_law_1026 ?_
  refine x_callVi (As := [iV (scOf xs (i + 1))]) (rest := [iV r273]) cal_X11_sits ins_X11_sits sel_X11_sits ly260 (by decide) rfl (xX11_sits x (scOf xs (i + 1)) _ _ (scOf_in _ _) h) rfl ml_L_150 ⟨Nat.le_of_ble_eq_true rfl, Nat.le_of_ble_eq_true rfl⟩ (Nat.le_of_ble_eq_true rfl) dL_law_1027 (fun r277 μ275 i278 n276 h => ?_)
  have h := h i278 n276
  obtain ⟨c279, h⟩ := h
  refine x_icmpeq (tgt := 1413) i274 i278 dL_law_1030 (by decide) (fun _ => ?_) (fun k => absurd c279 k)
  exact hK _ h
set_option maxRecDepth 100000 in
set_option maxHeartbeats 4000000 in
theorem xl_31 (x : xX) (bS L : Nat) (xs : Nat → Int32) (cs : Nat × Nat) (Qf : List Frame → Array Value → State → State → Prop) (i : Int) (hi0 : 0 ≤ i) (hiL : i + 6 ≤ L) (hL : L ≤ 3072) (μ : xM) (K : xM → Prop) (hK : ∀ ν : xM, K ν → xG x (lY bS L xs x) cs Qf 1413 [(0, .ref bS), (1, .ref (x.2.2.1 + 0)), (2, .ref (x.2.2.1 + 260)), (3, .ref (x.2.2.1 + 280)), (4, iV i)] [] ν) (h : tl_31 (scOf xs) i μ K) : xG x (lY bS L xs x) cs Qf 1035 [(0, .ref bS), (1, .ref (x.2.2.1 + 0)), (2, .ref (x.2.2.1 + 260)), (3, .ref (x.2.2.1 + 280)), (4, iV i)] [] μ := by
  have hi : xIn i := ⟨by omega, by omega⟩
  unfold tl_31 at h
  refine x_aload_n 1 rfl dL_law_1035 ?_
  refine x_aload_n 0 rfl dL_law_1036 ?_
  refine x_iload 4 rfl dL_law_1037 ?_
  refine x_iconst dL_law_1039 ?_
  refine x_iadd dL_law_1040 ?_
  refine x_scr (j := i + 1) (by omega) (by omega) ⟨by omega, by omega⟩ dL_law_1041 ?_
  refine x_aload_n 0 rfl dL_law_1042 ?_
  refine x_iload 4 rfl dL_law_1043 ?_
  refine x_iconst dL_law_1045 ?_
  refine x_iadd dL_law_1046 ?_
  refine x_scr (j := i + 2) (by omega) (by omega) ⟨by omega, by omega⟩ dL_law_1047 ?_
  refine x_ifeq (tgt := 1055) (scOf_in _ _) dL_law_1048 (by decide) (fun k280 => ?_) (fun k280 => ?_)
  · have h := h.1 k280
    refine x_iconst dL_law_1055 ?_
    refine x_callVl (As := [iV (scOf xs (i + 1)), iV 0]) (rest := []) cal_X10_hope ins_X10_hope sel_X10_hope ly0 (by decide) rfl (xX10_hope x (scOf xs (i + 1)) 0 _ _ (scOf_in _ _) (Or.inl rfl) h) rfl ml_L_151 ⟨Nat.le_of_ble_eq_true rfl, Nat.le_of_ble_eq_true rfl⟩ (Nat.le_of_ble_eq_true rfl) dL_law_1056 (fun r283 μ281 i284 n282 h => ?_)
    have h := h i284 n282
    refine x_aload_n 2 rfl dL_law_1059 ?_
    refine x_aload_n 0 rfl dL_law_1060 ?_
    refine x_iload 4 rfl dL_law_1061 ?_
    refine x_iconst dL_law_1063 ?_
    refine x_iadd dL_law_1064 ?_
    refine x_scr (j := i + 1) (by omega) (by omega) ⟨by omega, by omega⟩ dL_law_1065 ?_
    refine x_aload_n 0 rfl dL_law_1066 ?_
    refine x_iload 4 rfl dL_law_1067 ?_
    refine x_iconst dL_law_1069 ?_
    refine x_iadd dL_law_1070 ?_
    refine x_scr (j := i + 2) (by omega) (by omega) ⟨by omega, by omega⟩ dL_law_1071 ?_
    refine x_ifeq (tgt := 1079) (scOf_in _ _) dL_law_1072 (by decide) (fun k285 => ?_) (fun k285 => ?_)
    · have h := h.1 k285
      refine x_iconst dL_law_1079 ?_
      refine x_callVl (As := [iV (scOf xs (i + 1)), iV 0]) (rest := [jV r283]) cal_X11_hope ins_X11_hope sel_X11_hope ly260 (by decide) rfl (xX11_hope x (scOf xs (i + 1)) 0 _ _ (scOf_in _ _) (Or.inl rfl) h) rfl ml_L_155 ⟨Nat.le_of_ble_eq_true rfl, Nat.le_of_ble_eq_true rfl⟩ (Nat.le_of_ble_eq_true rfl) dL_law_1080 (fun r288 μ286 i289 n287 h => ?_)
      have h := h i289 n287
      refine x_lcmp i284 i289 dL_law_1083 ?_
      obtain ⟨c290, h⟩ := h
      refine x_ifeq (tgt := 1413) (xIcmp _ _) dL_law_1084 (by decide) (fun _ => ?_) (fun k => absurd (xcmp0 c290) k)
      exact hK _ h
    · have h := h.2 k285
      refine x_iconst dL_law_1075 ?_
      refine x_goto (tgt := 1080) dL_law_1076 (by decide) ?_
      refine x_callVl (As := [iV (scOf xs (i + 1)), iV 1]) (rest := [jV r283]) cal_X11_hope ins_X11_hope sel_X11_hope ly260 (by decide) rfl (xX11_hope x (scOf xs (i + 1)) 1 _ _ (scOf_in _ _) (Or.inr rfl) h) rfl ml_L_155 ⟨Nat.le_of_ble_eq_true rfl, Nat.le_of_ble_eq_true rfl⟩ (Nat.le_of_ble_eq_true rfl) dL_law_1080 (fun r293 μ291 i294 n292 h => ?_)
      have h := h i294 n292
      refine x_lcmp i284 i294 dL_law_1083 ?_
      obtain ⟨c295, h⟩ := h
      refine x_ifeq (tgt := 1413) (xIcmp _ _) dL_law_1084 (by decide) (fun _ => ?_) (fun k => absurd (xcmp0 c295) k)
      exact hK _ h
  · have h := h.2 k280
    refine x_iconst dL_law_1051 ?_
    refine x_goto (tgt := 1056) dL_law_1052 (by decide) ?_
    refine x_callVl (As := [iV (scOf xs (i + 1)), iV 1]) (rest := []) cal_X10_hope ins_X10_hope sel_X10_hope ly0 (by decide) rfl (xX10_hope x (scOf xs (i + 1)) 1 _ _ (scOf_in _ _) (Or.inr rfl) h) rfl ml_L_151 ⟨Nat.le_of_ble_eq_true rfl, Nat.le_of_ble_eq_true rfl⟩ (Nat.le_of_ble_eq_true rfl) dL_law_1056 (fun r298 μ296 i299 n297 h => ?_)
    have h := h i299 n297
    refine x_aload_n 2 rfl dL_law_1059 ?_
    refine x_aload_n 0 rfl dL_law_1060 ?_
    refine x_iload 4 rfl dL_law_1061 ?_
    refine x_iconst dL_law_1063 ?_
    refine x_iadd dL_law_1064 ?_
    refine x_scr (j := i + 1) (by omega) (by omega) ⟨by omega, by omega⟩ dL_law_1065 ?_
    refine x_aload_n 0 rfl dL_law_1066 ?_
    refine x_iload 4 rfl dL_law_1067 ?_
    refine x_iconst dL_law_1069 ?_
    refine x_iadd dL_law_1070 ?_
    refine x_scr (j := i + 2) (by omega) (by omega) ⟨by omega, by omega⟩ dL_law_1071 ?_
    refine x_ifeq (tgt := 1079) (scOf_in _ _) dL_law_1072 (by decide) (fun k300 => ?_) (fun k300 => ?_)
    · have h := h.1 k300
      refine x_iconst dL_law_1079 ?_
      refine x_callVl (As := [iV (scOf xs (i + 1)), iV 0]) (rest := [jV r298]) cal_X11_hope ins_X11_hope sel_X11_hope ly260 (by decide) rfl (xX11_hope x (scOf xs (i + 1)) 0 _ _ (scOf_in _ _) (Or.inl rfl) h) rfl ml_L_155 ⟨Nat.le_of_ble_eq_true rfl, Nat.le_of_ble_eq_true rfl⟩ (Nat.le_of_ble_eq_true rfl) dL_law_1080 (fun r303 μ301 i304 n302 h => ?_)
      have h := h i304 n302
      refine x_lcmp i299 i304 dL_law_1083 ?_
      obtain ⟨c305, h⟩ := h
      refine x_ifeq (tgt := 1413) (xIcmp _ _) dL_law_1084 (by decide) (fun _ => ?_) (fun k => absurd (xcmp0 c305) k)
      exact hK _ h
    · have h := h.2 k300
      refine x_iconst dL_law_1075 ?_
      refine x_goto (tgt := 1080) dL_law_1076 (by decide) ?_
      refine x_callVl (As := [iV (scOf xs (i + 1)), iV 1]) (rest := [jV r298]) cal_X11_hope ins_X11_hope sel_X11_hope ly260 (by decide) rfl (xX11_hope x (scOf xs (i + 1)) 1 _ _ (scOf_in _ _) (Or.inr rfl) h) rfl ml_L_155 ⟨Nat.le_of_ble_eq_true rfl, Nat.le_of_ble_eq_true rfl⟩ (Nat.le_of_ble_eq_true rfl) dL_law_1080 (fun r308 μ306 i309 n307 h => ?_)
      have h := h i309 n307
      refine x_lcmp i299 i309 dL_law_1083 ?_
      obtain ⟨c310, h⟩ := h
      refine x_ifeq (tgt := 1413) (xIcmp _ _) dL_law_1084 (by decide) (fun _ => ?_) (fun k => absurd (xcmp0 c310) k)
      exact hK _ h
set_option maxRecDepth 100000 in
set_option maxHeartbeats 4000000 in
theorem xl_32 (x : xX) (bS L : Nat) (xs : Nat → Int32) (cs : Nat × Nat) (Qf : List Frame → Array Value → State → State → Prop) (i : Int) (hi0 : 0 ≤ i) (hiL : i + 6 ≤ L) (hL : L ≤ 3072) (μ : xM) (K : xM → Prop) (hK : ∀ ν : xM, K ν → xG x (lY bS L xs x) cs Qf 1413 [(0, .ref bS), (1, .ref (x.2.2.1 + 0)), (2, .ref (x.2.2.1 + 260)), (3, .ref (x.2.2.1 + 280)), (4, iV i)] [] ν) (h : tl_32 (scOf xs) i μ K) : xG x (lY bS L xs x) cs Qf 1089 [(0, .ref bS), (1, .ref (x.2.2.1 + 0)), (2, .ref (x.2.2.1 + 260)), (3, .ref (x.2.2.1 + 280)), (4, iV i)] [] μ := by
  have hi : xIn i := ⟨by omega, by omega⟩
  unfold tl_32 at h
  refine x_aload_n 1 rfl dL_law_1089 ?_
  refine x_callVi (As := []) (rest := []) cal_X10_game ins_X10_game sel_X10_game ly0 (by decide) rfl (xX10_game x  _ _  h) rfl ml_L_156 ⟨Nat.le_of_ble_eq_true rfl, Nat.le_of_ble_eq_true rfl⟩ (Nat.le_of_ble_eq_true rfl) dL_law_1090 (fun r313 μ311 i314 n312 h => ?_)
  have h := h i314 n312
  refine x_aload_n 2 rfl dL_law_1093 ?_
  refine x_callVi (As := []) (rest := [iV r313]) cal_X11_game ins_X11_game sel_X11_game ly260 (by decide) rfl (xX11_game x  _ _  h) rfl ml_L_159 ⟨Nat.le_of_ble_eq_true rfl, Nat.le_of_ble_eq_true rfl⟩ (Nat.le_of_ble_eq_true rfl) dL_law_1094 (fun r317 μ315 i318 n316 h => ?_)
  have h := h i318 n316
  obtain ⟨c319, h⟩ := h
  refine x_icmpeq (tgt := 1413) i314 i318 dL_law_1097 (by decide) (fun _ => ?_) (fun k => absurd c319 k)
  exact hK _ h
set_option maxRecDepth 100000 in
set_option maxHeartbeats 4000000 in
theorem xl_33 (x : xX) (bS L : Nat) (xs : Nat → Int32) (cs : Nat × Nat) (Qf : List Frame → Array Value → State → State → Prop) (i : Int) (hi0 : 0 ≤ i) (hiL : i + 6 ≤ L) (hL : L ≤ 3072) (μ : xM) (K : xM → Prop) (hK : ∀ ν : xM, K ν → xG x (lY bS L xs x) cs Qf 1413 [(0, .ref bS), (1, .ref (x.2.2.1 + 0)), (2, .ref (x.2.2.1 + 260)), (3, .ref (x.2.2.1 + 280)), (4, iV i)] [] ν) (h : tl_33 (scOf xs) i μ K) : xG x (lY bS L xs x) cs Qf 1102 [(0, .ref bS), (1, .ref (x.2.2.1 + 0)), (2, .ref (x.2.2.1 + 260)), (3, .ref (x.2.2.1 + 280)), (4, iV i)] [] μ := by
  have hi : xIn i := ⟨by omega, by omega⟩
  unfold tl_33 at h
  refine x_aload_n 1 rfl dL_law_1102 ?_
  refine x_callVi (As := []) (rest := []) cal_X10_move ins_X10_move sel_X10_move ly0 (by decide) rfl (xX10_move x  _ _  h) rfl ml_L_160 ⟨Nat.le_of_ble_eq_true rfl, Nat.le_of_ble_eq_true rfl⟩ (Nat.le_of_ble_eq_true rfl) dL_law_1103 (fun r322 μ320 i323 n321 h => ?_)
  have h := h i323 n321
  refine x_aload_n 2 rfl dL_law_1106 ?_
  refine x_callVi (As := []) (rest := [iV r322]) cal_X11_move ins_X11_move sel_X11_move ly260 (by decide) rfl (xX11_move x  _ _  h) rfl ml_L_163 ⟨Nat.le_of_ble_eq_true rfl, Nat.le_of_ble_eq_true rfl⟩ (Nat.le_of_ble_eq_true rfl) dL_law_1107 (fun r326 μ324 i327 n325 h => ?_)
  have h := h i327 n325
  obtain ⟨c328, h⟩ := h
  refine x_icmpeq (tgt := 1413) i323 i327 dL_law_1110 (by decide) (fun _ => ?_) (fun k => absurd c328 k)
  exact hK _ h
set_option maxRecDepth 100000 in
set_option maxHeartbeats 4000000 in
theorem xl_34 (x : xX) (bS L : Nat) (xs : Nat → Int32) (cs : Nat × Nat) (Qf : List Frame → Array Value → State → State → Prop) (i : Int) (hi0 : 0 ≤ i) (hiL : i + 6 ≤ L) (hL : L ≤ 3072) (μ : xM) (K : xM → Prop) (hK : ∀ ν : xM, K ν → xG x (lY bS L xs x) cs Qf 1413 [(0, .ref bS), (1, .ref (x.2.2.1 + 0)), (2, .ref (x.2.2.1 + 260)), (3, .ref (x.2.2.1 + 280)), (4, iV i)] [] ν) (h : tl_34 (scOf xs) i μ K) : xG x (lY bS L xs x) cs Qf 1115 [(0, .ref bS), (1, .ref (x.2.2.1 + 0)), (2, .ref (x.2.2.1 + 260)), (3, .ref (x.2.2.1 + 280)), (4, iV i)] [] μ := by
  have hi : xIn i := ⟨by omega, by omega⟩
  unfold tl_34 at h
  refine x_aload_n 1 rfl dL_law_1115 ?_
  refine x_callVi (As := []) (rest := []) cal_X10_mark ins_X10_mark sel_X10_mark ly0 (by decide) rfl (xX10_mark x  _ _  h) rfl ml_L_164 ⟨Nat.le_of_ble_eq_true rfl, Nat.le_of_ble_eq_true rfl⟩ (Nat.le_of_ble_eq_true rfl) dL_law_1116 (fun r331 μ329 i332 n330 h => ?_)
  have h := h i332 n330
  refine x_aload_n 2 rfl dL_law_1119 ?_
  refine x_callVi (As := []) (rest := [iV r331]) cal_X11_mark ins_X11_mark sel_X11_mark ly260 (by decide) rfl (xX11_mark x  _ _  h) rfl ml_L_167 ⟨Nat.le_of_ble_eq_true rfl, Nat.le_of_ble_eq_true rfl⟩ (Nat.le_of_ble_eq_true rfl) dL_law_1120 (fun r335 μ333 i336 n334 h => ?_)
  have h := h i336 n334
  obtain ⟨c337, h⟩ := h
  refine x_icmpeq (tgt := 1413) i332 i336 dL_law_1123 (by decide) (fun _ => ?_) (fun k => absurd c337 k)
  exact hK _ h
set_option maxRecDepth 100000 in
set_option maxHeartbeats 4000000 in
theorem xl_35 (x : xX) (bS L : Nat) (xs : Nat → Int32) (cs : Nat × Nat) (Qf : List Frame → Array Value → State → State → Prop) (i : Int) (hi0 : 0 ≤ i) (hiL : i + 6 ≤ L) (hL : L ≤ 3072) (μ : xM) (K : xM → Prop) (hK : ∀ ν : xM, K ν → xG x (lY bS L xs x) cs Qf 1413 [(0, .ref bS), (1, .ref (x.2.2.1 + 0)), (2, .ref (x.2.2.1 + 260)), (3, .ref (x.2.2.1 + 280)), (4, iV i)] [] ν) (h : tl_35 (scOf xs) i μ K) : xG x (lY bS L xs x) cs Qf 1128 [(0, .ref bS), (1, .ref (x.2.2.1 + 0)), (2, .ref (x.2.2.1 + 260)), (3, .ref (x.2.2.1 + 280)), (4, iV i)] [] μ := by
  have hi : xIn i := ⟨by omega, by omega⟩
  unfold tl_35 at h
  refine x_aload_n 1 rfl dL_law_1128 ?_
  refine x_aload_n 0 rfl dL_law_1129 ?_
  refine x_iload 4 rfl dL_law_1130 ?_
  refine x_iconst dL_law_1132 ?_
  refine x_iadd dL_law_1133 ?_
  refine x_scr (j := i + 1) (by omega) (by omega) ⟨by omega, by omega⟩ dL_law_1134 ?_
  refine x_callVz (As := [iV (scOf xs (i + 1))]) (rest := []) cal_X10_back ins_X10_back sel_X10_back ly0 (by decide) rfl (xX10_back x (scOf xs (i + 1)) _ _ (scOf_in _ _) h) rfl ml_L_168 ⟨Nat.le_of_ble_eq_true rfl, Nat.le_of_ble_eq_true rfl⟩ (Nat.le_of_ble_eq_true rfl) dL_law_1135 (fun r340 μ338 i341 n339 h => ?_)
  have h := h i341 n339
  refine x_aload_n 2 rfl dL_law_1138 ?_
  refine x_aload_n 0 rfl dL_law_1139 ?_
  refine x_iload 4 rfl dL_law_1140 ?_
  refine x_iconst dL_law_1142 ?_
  refine x_iadd dL_law_1143 ?_
  refine x_scr (j := i + 1) (by omega) (by omega) ⟨by omega, by omega⟩ dL_law_1144 ?_
  refine x_callVz (As := [iV (scOf xs (i + 1))]) (rest := [iV r340]) cal_X11_back ins_X11_back sel_X11_back ly260 (by decide) rfl (xX11_back x (scOf xs (i + 1)) _ _ (scOf_in _ _) h) rfl ml_L_171 ⟨Nat.le_of_ble_eq_true rfl, Nat.le_of_ble_eq_true rfl⟩ (Nat.le_of_ble_eq_true rfl) dL_law_1145 (fun r344 μ342 i345 n343 h => ?_)
  have h := h i345 n343
  obtain ⟨c346, h⟩ := h
  refine x_icmpeq (tgt := 1413) (xIz i341) (xIz i345) dL_law_1148 (by decide) (fun _ => ?_) (fun k => absurd c346 k)
  exact hK _ h
set_option maxRecDepth 100000 in
set_option maxHeartbeats 4000000 in
theorem xl_36 (x : xX) (bS L : Nat) (xs : Nat → Int32) (cs : Nat × Nat) (Qf : List Frame → Array Value → State → State → Prop) (i : Int) (hi0 : 0 ≤ i) (hiL : i + 6 ≤ L) (hL : L ≤ 3072) (μ : xM) (K : xM → Prop) (hK : ∀ ν : xM, K ν → xG x (lY bS L xs x) cs Qf 1413 [(0, .ref bS), (1, .ref (x.2.2.1 + 0)), (2, .ref (x.2.2.1 + 260)), (3, .ref (x.2.2.1 + 280)), (4, iV i)] [] ν) (h : tl_36 (scOf xs) i μ K) : xG x (lY bS L xs x) cs Qf 1153 [(0, .ref bS), (1, .ref (x.2.2.1 + 0)), (2, .ref (x.2.2.1 + 260)), (3, .ref (x.2.2.1 + 280)), (4, iV i)] [] μ := by
  have hi : xIn i := ⟨by omega, by omega⟩
  unfold tl_36 at h
  refine x_aload_n 1 rfl dL_law_1153 ?_
  refine x_callVi (As := []) (rest := []) cal_X10_wrong ins_X10_wrong sel_X10_wrong ly0 (by decide) rfl (xX10_wrong x  _ _  h) rfl ml_L_172 ⟨Nat.le_of_ble_eq_true rfl, Nat.le_of_ble_eq_true rfl⟩ (Nat.le_of_ble_eq_true rfl) dL_law_1154 (fun r349 μ347 i350 n348 h => ?_)
  have h := h i350 n348
  refine x_aload_n 2 rfl dL_law_1157 ?_
  refine x_callVi (As := []) (rest := [iV r349]) cal_X11_wrong_ ins_X11_wrong_ sel_X11_wrong_ ly260 (by decide) rfl (xX11_wrong_ x  _ _  h) rfl ml_L_175 ⟨Nat.le_of_ble_eq_true rfl, Nat.le_of_ble_eq_true rfl⟩ (Nat.le_of_ble_eq_true rfl) dL_law_1158 (fun r353 μ351 i354 n352 h => ?_)
  have h := h i354 n352
  obtain ⟨c355, h⟩ := h
  refine x_icmpeq (tgt := 1413) i350 i354 dL_law_1161 (by decide) (fun _ => ?_) (fun k => absurd c355 k)
  exact hK _ h
set_option maxRecDepth 100000 in
set_option maxHeartbeats 4000000 in
theorem xl_37 (x : xX) (bS L : Nat) (xs : Nat → Int32) (cs : Nat × Nat) (Qf : List Frame → Array Value → State → State → Prop) (i : Int) (hi0 : 0 ≤ i) (hiL : i + 6 ≤ L) (hL : L ≤ 3072) (μ : xM) (K : xM → Prop) (hK : ∀ ν : xM, K ν → xG x (lY bS L xs x) cs Qf 1413 [(0, .ref bS), (1, .ref (x.2.2.1 + 0)), (2, .ref (x.2.2.1 + 260)), (3, .ref (x.2.2.1 + 280)), (4, iV i)] [] ν) (h : tl_37 (scOf xs) i μ K) : xG x (lY bS L xs x) cs Qf 1166 [(0, .ref bS), (1, .ref (x.2.2.1 + 0)), (2, .ref (x.2.2.1 + 260)), (3, .ref (x.2.2.1 + 280)), (4, iV i)] [] μ := by
  have hi : xIn i := ⟨by omega, by omega⟩
  unfold tl_37 at h
  refine x_aload_n 1 rfl dL_law_1166 ?_
  refine x_callVi (As := []) (rest := []) cal_X10_ways ins_X10_ways sel_X10_ways ly0 (by decide) rfl (xX10_ways x  _ _  h) rfl ml_L_176 ⟨Nat.le_of_ble_eq_true rfl, Nat.le_of_ble_eq_true rfl⟩ (Nat.le_of_ble_eq_true rfl) dL_law_1167 (fun r358 μ356 i359 n357 h => ?_)
  have h := h i359 n357
  refine x_aload_n 2 rfl dL_law_1170 ?_
  refine x_callVi (As := []) (rest := [iV r358]) cal_X11_ways ins_X11_ways sel_X11_ways ly260 (by decide) rfl (xX11_ways x  _ _  h) rfl ml_L_179 ⟨Nat.le_of_ble_eq_true rfl, Nat.le_of_ble_eq_true rfl⟩ (Nat.le_of_ble_eq_true rfl) dL_law_1171 (fun r362 μ360 i363 n361 h => ?_)
  have h := h i363 n361
  obtain ⟨c364, h⟩ := h
  refine x_icmpeq (tgt := 1413) i359 i363 dL_law_1174 (by decide) (fun _ => ?_) (fun k => absurd c364 k)
  exact hK _ h
set_option maxRecDepth 100000 in
set_option maxHeartbeats 4000000 in
theorem xl_38 (x : xX) (bS L : Nat) (xs : Nat → Int32) (cs : Nat × Nat) (Qf : List Frame → Array Value → State → State → Prop) (i : Int) (hi0 : 0 ≤ i) (hiL : i + 6 ≤ L) (hL : L ≤ 3072) (μ : xM) (K : xM → Prop) (hK : ∀ ν : xM, K ν → xG x (lY bS L xs x) cs Qf 1413 [(0, .ref bS), (1, .ref (x.2.2.1 + 0)), (2, .ref (x.2.2.1 + 260)), (3, .ref (x.2.2.1 + 280)), (4, iV i)] [] ν) (h : tl_38 (scOf xs) i μ K) : xG x (lY bS L xs x) cs Qf 1179 [(0, .ref bS), (1, .ref (x.2.2.1 + 0)), (2, .ref (x.2.2.1 + 260)), (3, .ref (x.2.2.1 + 280)), (4, iV i)] [] μ := by
  have hi : xIn i := ⟨by omega, by omega⟩
  unfold tl_38 at h
  refine x_aload_n 1 rfl dL_law_1179 ?_
  refine x_aload_n 0 rfl dL_law_1180 ?_
  refine x_iload 4 rfl dL_law_1181 ?_
  refine x_iconst dL_law_1183 ?_
  refine x_iadd dL_law_1184 ?_
  refine x_scr (j := i + 1) (by omega) (by omega) ⟨by omega, by omega⟩ dL_law_1185 ?_
  refine x_callVi (As := [iV (scOf xs (i + 1))]) (rest := []) cal_X10_waysOf ins_X10_waysOf sel_X10_waysOf ly0 (by decide) rfl (xX10_waysOf x (scOf xs (i + 1)) _ _ (scOf_in _ _) h) rfl ml_L_180 ⟨Nat.le_of_ble_eq_true rfl, Nat.le_of_ble_eq_true rfl⟩ (Nat.le_of_ble_eq_true rfl) dL_law_1186 (fun r367 μ365 i368 n366 h => ?_)
  have h := h i368 n366
  refine x_aload_n 2 rfl dL_law_1189 ?_
  refine x_aload_n 0 rfl dL_law_1190 ?_
  refine x_iload 4 rfl dL_law_1191 ?_
  refine x_iconst dL_law_1193 ?_
  refine x_iadd dL_law_1194 ?_
  refine x_scr (j := i + 1) (by omega) (by omega) ⟨by omega, by omega⟩ dL_law_1195 ?_
  refine x_callVi (As := [iV (scOf xs (i + 1))]) (rest := [iV r367]) cal_X11_waysOf ins_X11_waysOf sel_X11_waysOf ly260 (by decide) rfl (xX11_waysOf x (scOf xs (i + 1)) _ _ (scOf_in _ _) h) rfl ml_L_183 ⟨Nat.le_of_ble_eq_true rfl, Nat.le_of_ble_eq_true rfl⟩ (Nat.le_of_ble_eq_true rfl) dL_law_1196 (fun r371 μ369 i372 n370 h => ?_)
  have h := h i372 n370
  obtain ⟨c373, h⟩ := h
  refine x_icmpeq (tgt := 1413) i368 i372 dL_law_1199 (by decide) (fun _ => ?_) (fun k => absurd c373 k)
  exact hK _ h
set_option maxRecDepth 100000 in
set_option maxHeartbeats 4000000 in
theorem xl_39 (x : xX) (bS L : Nat) (xs : Nat → Int32) (cs : Nat × Nat) (Qf : List Frame → Array Value → State → State → Prop) (i : Int) (hi0 : 0 ≤ i) (hiL : i + 6 ≤ L) (hL : L ≤ 3072) (μ : xM) (K : xM → Prop) (hK : ∀ ν : xM, K ν → xG x (lY bS L xs x) cs Qf 1413 [(0, .ref bS), (1, .ref (x.2.2.1 + 0)), (2, .ref (x.2.2.1 + 260)), (3, .ref (x.2.2.1 + 280)), (4, iV i)] [] ν) (h : tl_39 (scOf xs) i μ K) : xG x (lY bS L xs x) cs Qf 1204 [(0, .ref bS), (1, .ref (x.2.2.1 + 0)), (2, .ref (x.2.2.1 + 260)), (3, .ref (x.2.2.1 + 280)), (4, iV i)] [] μ := by
  have hi : xIn i := ⟨by omega, by omega⟩
  unfold tl_39 at h
  refine x_aload_n 1 rfl dL_law_1204 ?_
  refine x_aload_n 0 rfl dL_law_1205 ?_
  refine x_iload 4 rfl dL_law_1206 ?_
  refine x_iconst dL_law_1208 ?_
  refine x_iadd dL_law_1209 ?_
  refine x_scr (j := i + 1) (by omega) (by omega) ⟨by omega, by omega⟩ dL_law_1210 ?_
  refine x_aload_n 0 rfl dL_law_1211 ?_
  refine x_iload 4 rfl dL_law_1212 ?_
  refine x_iconst dL_law_1214 ?_
  refine x_iadd dL_law_1215 ?_
  refine x_scr (j := i + 2) (by omega) (by omega) ⟨by omega, by omega⟩ dL_law_1216 ?_
  refine x_callVz (As := [iV (scOf xs (i + 1)), iV (scOf xs (i + 2))]) (rest := []) cal_X10_rename ins_X10_rename sel_X10_rename ly0 (by decide) rfl (xX10_rename x (scOf xs (i + 1)) (scOf xs (i + 2)) _ _ (scOf_in _ _) (scOf_in _ _) h) rfl ml_L_184 ⟨Nat.le_of_ble_eq_true rfl, Nat.le_of_ble_eq_true rfl⟩ (Nat.le_of_ble_eq_true rfl) dL_law_1217 (fun r376 μ374 i377 n375 h => ?_)
  have h := h i377 n375
  refine x_aload_n 2 rfl dL_law_1220 ?_
  refine x_aload_n 0 rfl dL_law_1221 ?_
  refine x_iload 4 rfl dL_law_1222 ?_
  refine x_iconst dL_law_1224 ?_
  refine x_iadd dL_law_1225 ?_
  refine x_scr (j := i + 1) (by omega) (by omega) ⟨by omega, by omega⟩ dL_law_1226 ?_
  refine x_aload_n 0 rfl dL_law_1227 ?_
  refine x_iload 4 rfl dL_law_1228 ?_
  refine x_iconst dL_law_1230 ?_
  refine x_iadd dL_law_1231 ?_
  refine x_scr (j := i + 2) (by omega) (by omega) ⟨by omega, by omega⟩ dL_law_1232 ?_
  refine x_callVz (As := [iV (scOf xs (i + 1)), iV (scOf xs (i + 2))]) (rest := [iV r376]) cal_X11_rename ins_X11_rename sel_X11_rename ly260 (by decide) rfl (xX11_rename x (scOf xs (i + 1)) (scOf xs (i + 2)) _ _ (scOf_in _ _) (scOf_in _ _) h) rfl ml_L_187 ⟨Nat.le_of_ble_eq_true rfl, Nat.le_of_ble_eq_true rfl⟩ (Nat.le_of_ble_eq_true rfl) dL_law_1233 (fun r380 μ378 i381 n379 h => ?_)
  have h := h i381 n379
  obtain ⟨c382, h⟩ := h
  refine x_icmpeq (tgt := 1413) (xIz i377) (xIz i381) dL_law_1236 (by decide) (fun _ => ?_) (fun k => absurd c382 k)
  exact hK _ h
set_option maxRecDepth 100000 in
set_option maxHeartbeats 4000000 in
theorem xl_40 (x : xX) (bS L : Nat) (xs : Nat → Int32) (cs : Nat × Nat) (Qf : List Frame → Array Value → State → State → Prop) (i : Int) (hi0 : 0 ≤ i) (hiL : i + 6 ≤ L) (hL : L ≤ 3072) (μ : xM) (K : xM → Prop) (hK : ∀ ν : xM, K ν → xG x (lY bS L xs x) cs Qf 1413 [(0, .ref bS), (1, .ref (x.2.2.1 + 0)), (2, .ref (x.2.2.1 + 260)), (3, .ref (x.2.2.1 + 280)), (4, iV i)] [] ν) (h : tl_40 (scOf xs) i μ K) : xG x (lY bS L xs x) cs Qf 1241 [(0, .ref bS), (1, .ref (x.2.2.1 + 0)), (2, .ref (x.2.2.1 + 260)), (3, .ref (x.2.2.1 + 280)), (4, iV i)] [] μ := by
  have hi : xIn i := ⟨by omega, by omega⟩
  unfold tl_40 at h
  refine x_aload_n 1 rfl dL_law_1241 ?_
  refine x_aload_n 0 rfl dL_law_1242 ?_
  refine x_iload 4 rfl dL_law_1243 ?_
  refine x_iconst dL_law_1245 ?_
  refine x_iadd dL_law_1246 ?_
  refine x_scr (j := i + 1) (by omega) (by omega) ⟨by omega, by omega⟩ dL_law_1247 ?_
  refine x_aload_n 0 rfl dL_law_1248 ?_
  refine x_iload 4 rfl dL_law_1249 ?_
  refine x_iconst dL_law_1251 ?_
  refine x_iadd dL_law_1252 ?_
  refine x_scr (j := i + 2) (by omega) (by omega) ⟨by omega, by omega⟩ dL_law_1253 ?_
  refine x_ifeq (tgt := 1261) (scOf_in _ _) dL_law_1254 (by decide) (fun k383 => ?_) (fun k383 => ?_)
  · have h := h.1 k383
    refine x_iconst dL_law_1261 ?_
    refine x_callVz (As := [iV (scOf xs (i + 1)), iV 0]) (rest := []) cal_X10_bar ins_X10_bar sel_X10_bar ly0 (by decide) rfl (xX10_bar x (scOf xs (i + 1)) 0 _ _ (scOf_in _ _) (Or.inl rfl) h) rfl ml_L_188 ⟨Nat.le_of_ble_eq_true rfl, Nat.le_of_ble_eq_true rfl⟩ (Nat.le_of_ble_eq_true rfl) dL_law_1262 (fun r386 μ384 i387 n385 h => ?_)
    have h := h i387 n385
    refine x_aload_n 2 rfl dL_law_1265 ?_
    refine x_aload_n 0 rfl dL_law_1266 ?_
    refine x_iload 4 rfl dL_law_1267 ?_
    refine x_iconst dL_law_1269 ?_
    refine x_iadd dL_law_1270 ?_
    refine x_scr (j := i + 1) (by omega) (by omega) ⟨by omega, by omega⟩ dL_law_1271 ?_
    refine x_aload_n 0 rfl dL_law_1272 ?_
    refine x_iload 4 rfl dL_law_1273 ?_
    refine x_iconst dL_law_1275 ?_
    refine x_iadd dL_law_1276 ?_
    refine x_scr (j := i + 2) (by omega) (by omega) ⟨by omega, by omega⟩ dL_law_1277 ?_
    refine x_ifeq (tgt := 1285) (scOf_in _ _) dL_law_1278 (by decide) (fun k388 => ?_) (fun k388 => ?_)
    · have h := h.1 k388
      refine x_iconst dL_law_1285 ?_
      refine x_callVz (As := [iV (scOf xs (i + 1)), iV 0]) (rest := [iV r386]) cal_X11_bar ins_X11_bar sel_X11_bar ly260 (by decide) rfl (xX11_bar x (scOf xs (i + 1)) 0 _ _ (scOf_in _ _) (Or.inl rfl) h) rfl ml_L_192 ⟨Nat.le_of_ble_eq_true rfl, Nat.le_of_ble_eq_true rfl⟩ (Nat.le_of_ble_eq_true rfl) dL_law_1286 (fun r391 μ389 i392 n390 h => ?_)
      have h := h i392 n390
      obtain ⟨c393, h⟩ := h
      refine x_icmpeq (tgt := 1413) (xIz i387) (xIz i392) dL_law_1289 (by decide) (fun _ => ?_) (fun k => absurd c393 k)
      exact hK _ h
    · have h := h.2 k388
      refine x_iconst dL_law_1281 ?_
      refine x_goto (tgt := 1286) dL_law_1282 (by decide) ?_
      refine x_callVz (As := [iV (scOf xs (i + 1)), iV 1]) (rest := [iV r386]) cal_X11_bar ins_X11_bar sel_X11_bar ly260 (by decide) rfl (xX11_bar x (scOf xs (i + 1)) 1 _ _ (scOf_in _ _) (Or.inr rfl) h) rfl ml_L_192 ⟨Nat.le_of_ble_eq_true rfl, Nat.le_of_ble_eq_true rfl⟩ (Nat.le_of_ble_eq_true rfl) dL_law_1286 (fun r396 μ394 i397 n395 h => ?_)
      have h := h i397 n395
      obtain ⟨c398, h⟩ := h
      refine x_icmpeq (tgt := 1413) (xIz i387) (xIz i397) dL_law_1289 (by decide) (fun _ => ?_) (fun k => absurd c398 k)
      exact hK _ h
  · have h := h.2 k383
    refine x_iconst dL_law_1257 ?_
    refine x_goto (tgt := 1262) dL_law_1258 (by decide) ?_
    refine x_callVz (As := [iV (scOf xs (i + 1)), iV 1]) (rest := []) cal_X10_bar ins_X10_bar sel_X10_bar ly0 (by decide) rfl (xX10_bar x (scOf xs (i + 1)) 1 _ _ (scOf_in _ _) (Or.inr rfl) h) rfl ml_L_188 ⟨Nat.le_of_ble_eq_true rfl, Nat.le_of_ble_eq_true rfl⟩ (Nat.le_of_ble_eq_true rfl) dL_law_1262 (fun r401 μ399 i402 n400 h => ?_)
    have h := h i402 n400
    refine x_aload_n 2 rfl dL_law_1265 ?_
    refine x_aload_n 0 rfl dL_law_1266 ?_
    refine x_iload 4 rfl dL_law_1267 ?_
    refine x_iconst dL_law_1269 ?_
    refine x_iadd dL_law_1270 ?_
    refine x_scr (j := i + 1) (by omega) (by omega) ⟨by omega, by omega⟩ dL_law_1271 ?_
    refine x_aload_n 0 rfl dL_law_1272 ?_
    refine x_iload 4 rfl dL_law_1273 ?_
    refine x_iconst dL_law_1275 ?_
    refine x_iadd dL_law_1276 ?_
    refine x_scr (j := i + 2) (by omega) (by omega) ⟨by omega, by omega⟩ dL_law_1277 ?_
    refine x_ifeq (tgt := 1285) (scOf_in _ _) dL_law_1278 (by decide) (fun k403 => ?_) (fun k403 => ?_)
    · have h := h.1 k403
      refine x_iconst dL_law_1285 ?_
      refine x_callVz (As := [iV (scOf xs (i + 1)), iV 0]) (rest := [iV r401]) cal_X11_bar ins_X11_bar sel_X11_bar ly260 (by decide) rfl (xX11_bar x (scOf xs (i + 1)) 0 _ _ (scOf_in _ _) (Or.inl rfl) h) rfl ml_L_192 ⟨Nat.le_of_ble_eq_true rfl, Nat.le_of_ble_eq_true rfl⟩ (Nat.le_of_ble_eq_true rfl) dL_law_1286 (fun r406 μ404 i407 n405 h => ?_)
      have h := h i407 n405
      obtain ⟨c408, h⟩ := h
      refine x_icmpeq (tgt := 1413) (xIz i402) (xIz i407) dL_law_1289 (by decide) (fun _ => ?_) (fun k => absurd c408 k)
      exact hK _ h
    · have h := h.2 k403
      refine x_iconst dL_law_1281 ?_
      refine x_goto (tgt := 1286) dL_law_1282 (by decide) ?_
      refine x_callVz (As := [iV (scOf xs (i + 1)), iV 1]) (rest := [iV r401]) cal_X11_bar ins_X11_bar sel_X11_bar ly260 (by decide) rfl (xX11_bar x (scOf xs (i + 1)) 1 _ _ (scOf_in _ _) (Or.inr rfl) h) rfl ml_L_192 ⟨Nat.le_of_ble_eq_true rfl, Nat.le_of_ble_eq_true rfl⟩ (Nat.le_of_ble_eq_true rfl) dL_law_1286 (fun r411 μ409 i412 n410 h => ?_)
      have h := h i412 n410
      obtain ⟨c413, h⟩ := h
      refine x_icmpeq (tgt := 1413) (xIz i402) (xIz i412) dL_law_1289 (by decide) (fun _ => ?_) (fun k => absurd c413 k)
      exact hK _ h
set_option maxRecDepth 100000 in
set_option maxHeartbeats 4000000 in
theorem xl_41 (x : xX) (bS L : Nat) (xs : Nat → Int32) (cs : Nat × Nat) (Qf : List Frame → Array Value → State → State → Prop) (i : Int) (hi0 : 0 ≤ i) (hiL : i + 6 ≤ L) (hL : L ≤ 3072) (μ : xM) (K : xM → Prop) (hK : ∀ ν : xM, K ν → xG x (lY bS L xs x) cs Qf 1413 [(0, .ref bS), (1, .ref (x.2.2.1 + 0)), (2, .ref (x.2.2.1 + 260)), (3, .ref (x.2.2.1 + 280)), (4, iV i)] [] ν) (h : tl_41 (scOf xs) i μ K) : xG x (lY bS L xs x) cs Qf 1294 [(0, .ref bS), (1, .ref (x.2.2.1 + 0)), (2, .ref (x.2.2.1 + 260)), (3, .ref (x.2.2.1 + 280)), (4, iV i)] [] μ := by
  have hi : xIn i := ⟨by omega, by omega⟩
  unfold tl_41 at h
  refine x_aload_n 1 rfl dL_law_1294 ?_
  refine x_aload_n 0 rfl dL_law_1295 ?_
  refine x_iload 4 rfl dL_law_1296 ?_
  refine x_iconst dL_law_1298 ?_
  refine x_iadd dL_law_1299 ?_
  refine x_scr (j := i + 1) (by omega) (by omega) ⟨by omega, by omega⟩ dL_law_1300 ?_
  refine x_callVi (As := [iV (scOf xs (i + 1))]) (rest := []) cal_X10_guest ins_X10_guest sel_X10_guest ly0 (by decide) rfl (xX10_guest x (scOf xs (i + 1)) _ _ (scOf_in _ _) h) rfl ml_L_193 ⟨Nat.le_of_ble_eq_true rfl, Nat.le_of_ble_eq_true rfl⟩ (Nat.le_of_ble_eq_true rfl) dL_law_1301 (fun r416 μ414 i417 n415 h => ?_)
  have h := h i417 n415
  refine x_aload_n 2 rfl dL_law_1304 ?_
  refine x_aload_n 0 rfl dL_law_1305 ?_
  refine x_iload 4 rfl dL_law_1306 ?_
  refine x_iconst dL_law_1308 ?_
  refine x_iadd dL_law_1309 ?_
  refine x_scr (j := i + 1) (by omega) (by omega) ⟨by omega, by omega⟩ dL_law_1310 ?_
  refine x_callVi (As := [iV (scOf xs (i + 1))]) (rest := [iV r416]) cal_X11_guest ins_X11_guest sel_X11_guest ly260 (by decide) rfl (xX11_guest x (scOf xs (i + 1)) _ _ (scOf_in _ _) h) rfl ml_L_196 ⟨Nat.le_of_ble_eq_true rfl, Nat.le_of_ble_eq_true rfl⟩ (Nat.le_of_ble_eq_true rfl) dL_law_1311 (fun r420 μ418 i421 n419 h => ?_)
  have h := h i421 n419
  obtain ⟨c422, h⟩ := h
  refine x_icmpeq (tgt := 1413) i417 i421 dL_law_1314 (by decide) (fun _ => ?_) (fun k => absurd c422 k)
  exact hK _ h
set_option maxRecDepth 100000 in
set_option maxHeartbeats 4000000 in
theorem xl_43 (x : xX) (bS L : Nat) (xs : Nat → Int32) (cs : Nat × Nat) (Qf : List Frame → Array Value → State → State → Prop) (i : Int) (hi0 : 0 ≤ i) (hiL : i + 6 ≤ L) (hL : L ≤ 3072) (μ : xM) (K : xM → Prop) (hK : ∀ ν : xM, K ν → xG x (lY bS L xs x) cs Qf 1413 [(0, .ref bS), (1, .ref (x.2.2.1 + 0)), (2, .ref (x.2.2.1 + 260)), (3, .ref (x.2.2.1 + 280)), (4, iV i)] [] ν) (h : tl_43 (scOf xs) i μ K) : xG x (lY bS L xs x) cs Qf 1375 [(0, .ref bS), (1, .ref (x.2.2.1 + 0)), (2, .ref (x.2.2.1 + 260)), (3, .ref (x.2.2.1 + 280)), (4, iV i)] [] μ := by
  have hi : xIn i := ⟨by omega, by omega⟩
  unfold tl_43 at h
  refine x_aload_n 1 rfl dL_law_1375 ?_
  refine x_aload_n 0 rfl dL_law_1376 ?_
  refine x_iload 4 rfl dL_law_1377 ?_
  refine x_iconst dL_law_1379 ?_
  refine x_iadd dL_law_1380 ?_
  refine x_scr (j := i + 1) (by omega) (by omega) ⟨by omega, by omega⟩ dL_law_1381 ?_
  refine x_callVi (As := [iV (scOf xs (i + 1))]) (rest := []) cal_X10_size ins_X10_size sel_X10_size ly0 (by decide) rfl (xX10_size x (scOf xs (i + 1)) _ _ (scOf_in _ _) h) rfl ml_L_206 ⟨Nat.le_of_ble_eq_true rfl, Nat.le_of_ble_eq_true rfl⟩ (Nat.le_of_ble_eq_true rfl) dL_law_1382 (fun r425 μ423 i426 n424 h => ?_)
  have h := h i426 n424
  refine x_aload_n 2 rfl dL_law_1385 ?_
  refine x_aload_n 0 rfl dL_law_1386 ?_
  refine x_iload 4 rfl dL_law_1387 ?_
  refine x_iconst dL_law_1389 ?_
  refine x_iadd dL_law_1390 ?_
  refine x_scr (j := i + 1) (by omega) (by omega) ⟨by omega, by omega⟩ dL_law_1391 ?_
  refine x_callVi (As := [iV (scOf xs (i + 1))]) (rest := [iV r425]) cal_X11_size ins_X11_size sel_X11_size ly260 (by decide) rfl (xX11_size x (scOf xs (i + 1)) _ _ (scOf_in _ _) h) rfl ml_L_209 ⟨Nat.le_of_ble_eq_true rfl, Nat.le_of_ble_eq_true rfl⟩ (Nat.le_of_ble_eq_true rfl) dL_law_1392 (fun r429 μ427 i430 n428 h => ?_)
  have h := h i430 n428
  obtain ⟨c431, h⟩ := h
  refine x_icmpeq (tgt := 1413) i426 i430 dL_law_1395 (by decide) (fun _ => ?_) (fun k => absurd c431 k)
  exact hK _ h
set_option maxRecDepth 100000 in
set_option maxHeartbeats 4000000 in
theorem xl_44 (x : xX) (bS L : Nat) (xs : Nat → Int32) (cs : Nat × Nat) (Qf : List Frame → Array Value → State → State → Prop) (i : Int) (hi0 : 0 ≤ i) (hiL : i + 6 ≤ L) (hL : L ≤ 3072) (μ : xM) (K : xM → Prop) (hK : ∀ ν : xM, K ν → xG x (lY bS L xs x) cs Qf 1413 [(0, .ref bS), (1, .ref (x.2.2.1 + 0)), (2, .ref (x.2.2.1 + 260)), (3, .ref (x.2.2.1 + 280)), (4, iV i)] [] ν) (h : tl_44 (scOf xs) i μ K) : xG x (lY bS L xs x) cs Qf 1400 [(0, .ref bS), (1, .ref (x.2.2.1 + 0)), (2, .ref (x.2.2.1 + 260)), (3, .ref (x.2.2.1 + 280)), (4, iV i)] [] μ := by
  have hi : xIn i := ⟨by omega, by omega⟩
  unfold tl_44 at h
  refine x_aload_n 1 rfl dL_law_1400 ?_
  refine x_callVi (As := []) (rest := []) cal_X10_trouble ins_X10_trouble sel_X10_trouble ly0 (by decide) rfl (xX10_trouble x  _ _  h) rfl ml_L_210 ⟨Nat.le_of_ble_eq_true rfl, Nat.le_of_ble_eq_true rfl⟩ (Nat.le_of_ble_eq_true rfl) dL_law_1401 (fun r434 μ432 i435 n433 h => ?_)
  have h := h i435 n433
  refine x_aload_n 2 rfl dL_law_1404 ?_
  refine x_callVi (As := []) (rest := [iV r434]) cal_X11_trouble ins_X11_trouble sel_X11_trouble ly260 (by decide) rfl (xX11_trouble x  _ _  h) rfl ml_L_213 ⟨Nat.le_of_ble_eq_true rfl, Nat.le_of_ble_eq_true rfl⟩ (Nat.le_of_ble_eq_true rfl) dL_law_1405 (fun r438 μ436 i439 n437 h => ?_)
  have h := h i439 n437
  obtain ⟨c440, h⟩ := h
  refine x_icmpeq (tgt := 1413) i435 i439 dL_law_1408 (by decide) (fun _ => ?_) (fun k => absurd c440 k)
  exact hK _ h
