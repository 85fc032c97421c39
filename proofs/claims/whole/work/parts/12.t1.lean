def tX11_thrown  (μ : xM) (Q : Int → xM → Prop) : Prop := xRan μ → 
  Q (μ 260 0) μ
def tX11_good  (μ : xM) (Q : xM → Prop) : Prop := xRan μ → 
  ∀ μ1 : xM, μ1 = wi μ 260 0 0 → xRan μ1 → (∀ μ4 : xM, μ4 = wi μ1 260 11 0 → xRan μ4 → (Q μ4))
def tX11_no (p1 : Int) (μ : xM) (Q : Int → xM → Prop) : Prop := xRan μ → (xIn p1) → 
  ∀ μ1 : xM, μ1 = wi μ 260 11 p1 → xRan μ1 → (Q (-1) μ1)
def tX11_isNot (p1 : Int) (μ : xM) (Q : Int → xM → Prop) : Prop := xRan μ → (xIn p1) → 
  ∀ μ1 : xM, μ1 = wi μ 260 11 p1 → xRan μ1 → (Q 0 μ1)
def tX11_within (p1 : Int) (p2 : Int) (p3 : Int) (μ : xM) (Q : Int → xM → Prop) : Prop := xRan μ → (xIn p1) → (xIn p2) → (xIn p3) → 
  ((p1 < p2 → Q 0 μ) ∧
  (¬ p1 < p2 → ((p3 < p1 → Q 0 μ) ∧
  (¬ p3 < p1 → Q 1 μ))))
def tX11_feed_b76 (p1 : Int) (p2 : Int) (p3 : Int) (p4 : Int) (p5 : Int) (b6 : Int) (s0 : Int) (μ : xM) (Q : Int → xM → Prop) (J23 : Int → xM → Prop) : Prop := xRan μ →
  (xIn b6) ∧ ((0 ≤ (μ 260 2) ∧ (μ 260 2) < 900) ∧ (∀ μ20 : xM, μ20 = wi μ 261 ((μ 260 2).toNat) (xAnd (xShr s0 (24 - (8 * (b6.tmod 4)))) 255) → xRan μ20 → ((xIn ((μ20 260 2) + 1)) ∧ (∀ μ25 : xM, μ25 = wi μ20 260 2 ((μ20 260 2) + 1) → xRan μ25 → (J23 (b6 + 1) μ25)))))
def tX11_feed (p1 : Int) (p2 : Int) (p3 : Int) (p4 : Int) (p5 : Int) (μ : xM) (Q : Int → xM → Prop) : Prop := xRan μ → (xIn p1) → (xIn p2) → (xIn p3) → (xIn p4) → (xIn p5) → 
  ∀ μ1 : xM, μ1 = wi μ 260 0 0 → xRan μ1 → ((xIn ((μ1 260 2) + 20)) ∧ (((((μ1 260 2) + 20) ≤ 900 → xLoop1 0 μ1 (fun J23 l6_7 μ8 =>
  (xIn l6_7) ∧ (((20 ≤ l6_7 → Q (μ8 260 2) μ8) ∧
  (¬ 20 ≤ l6_7 → ((4 ≤ l6_7 → ((8 ≤ l6_7 → ((12 ≤ l6_7 → ((16 ≤ l6_7 → tX11_feed_b76 p1 p2 p3 p4 p5 l6_7 p5 μ8 Q J23) ∧
  (¬ 16 ≤ l6_7 → tX11_feed_b76 p1 p2 p3 p4 p5 l6_7 p4 μ8 Q J23))) ∧
  (¬ 12 ≤ l6_7 → tX11_feed_b76 p1 p2 p3 p4 p5 l6_7 p3 μ8 Q J23))) ∧
  (¬ 8 ≤ l6_7 → tX11_feed_b76 p1 p2 p3 p4 p5 l6_7 p2 μ8 Q J23))) ∧
  (¬ 4 ≤ l6_7 → tX11_feed_b76 p1 p2 p3 p4 p5 l6_7 p1 μ8 Q J23))))))) ∧
  (¬ ((μ1 260 2) + 20) ≤ 900 → Q (-1) μ1))))
def tX11_look (p1 : Int) (μ : xM) (Q : Int → xM → Prop) : Prop := xRan μ → (xIn p1) → 
  (((μ 260 3) ≤ p1 → Q (-1) μ) ∧
  (¬ (μ 260 3) ≤ p1 → (0 ≤ p1 ∧ p1 < 900) ∧ (Q (μ 261 p1.toNat) μ)))
def tX11_isSmall (p1 : Int) (μ : xM) (Q : Int → xM → Prop) : Prop := xRan μ → (xIn p1) → 
  ((p1 < 97 → Q 0 μ) ∧
  (¬ p1 < 97 → ((122 < p1 → Q 0 μ) ∧
  (¬ 122 < p1 → Q 1 μ))))
def tX11_isDigit (p1 : Int) (μ : xM) (Q : Int → xM → Prop) : Prop := xRan μ → (xIn p1) → 
  ((p1 < 48 → Q 0 μ) ∧
  (¬ p1 < 48 → ((57 < p1 → Q 0 μ) ∧
  (¬ 57 < p1 → Q 1 μ))))
def tX11_next  (μ : xM) (Q : xM → Prop) : Prop := xRan μ → 
  xLoop1 (μ 260 5) μ (fun J5 l1_2 μ3 =>
  (xIn l1_2) ∧ (tX11_look l1_2 μ3 (fun r8 μ6 => (xIn r8) → xRan μ6 → (((r8 ≠ 32 → ∀ μ11 : xM, μ11 = wi μ6 260 4 l1_2 → xRan μ11 → (tX11_look l1_2 μ11 (fun r16 μ14 => (xIn r16) → xRan μ14 → (∀ μ18 : xM, μ18 = wi μ14 260 8 0 → xRan μ18 → (∀ μ21 : xM, μ21 = wi μ18 260 7 0 → xRan μ21 → (((r16 ≠ (-1) → tX11_isSmall r16 μ21 (fun r27 μ25 => (r27 = 0 ∨ r27 = 1) → xRan μ25 → (((r27 = 0 → tX11_isDigit r16 μ25 (fun r32 μ30 => (r32 = 0 ∨ r32 = 1) → xRan μ30 → (((r32 = 0 → (xIn (l1_2 + 1)) ∧ (∀ μ36 : xM, μ36 = wi μ30 260 5 (l1_2 + 1) → xRan μ36 → (((r16 = 59 → ∀ μ40 : xM, μ40 = wi μ36 260 6 r16 → xRan μ40 → (Q μ40)) ∧
  (¬ r16 = 59 → ((r16 ≠ 44 → ∀ μ44 : xM, μ44 = wi μ36 260 6 1 → xRan μ44 → (Q μ44)) ∧
  (r16 = 44 → ∀ μ47 : xM, μ47 = wi μ36 260 6 r16 → xRan μ47 → (Q μ47)))))))) ∧
  (r32 = 1 → xLoop2 l1_2 0 μ30 (fun J152 l1_50 l3_51 μ52 =>
  (xIn l1_50) ∧ (tX11_look l1_50 μ52 (fun r57 μ55 => (xIn r57) → xRan μ55 → (tX11_isDigit r57 μ55 (fun r61 μ59 => (r61 = 0 ∨ r61 = 1) → xRan μ59 → (((r61 = 0 → ∀ μ64 : xM, μ64 = wi μ59 260 5 l1_50 → xRan μ64 → ((xIn l3_51) ∧ (((l3_51 ≤ 3 → ∀ μ69 : xM, μ69 = wi μ64 260 6 3 → xRan μ69 → (Q μ69)) ∧
  (¬ l3_51 ≤ 3 → ∀ μ72 : xM, μ72 = wi μ64 260 6 1 → xRan μ72 → (Q μ72)))))) ∧
  (r61 = 1 → (xIn l3_51) ∧ (((3 ≤ l3_51 → J152 (l1_50 + 1) (l3_51 + 1) μ59) ∧
  (¬ 3 ≤ l3_51 → tX11_look l1_50 μ59 (fun r80 μ78 => (xIn r80) → xRan μ78 → ((xIn (((10 * (μ59 260 7)) + r80) - 48)) ∧ (∀ μ83 : xM, μ83 = wi μ78 260 7 (((10 * (μ59 260 7)) + r80) - 48) → xRan μ83 → (J152 (l1_50 + 1) (l3_51 + 1) μ83)))))))))))))))))))) ∧
  (r27 = 1 → xLoop1 l1_2 μ25 (fun J67 l1_86 μ87 =>
  (xIn l1_86) ∧ (tX11_look l1_86 μ87 (fun r92 μ90 => (xIn r92) → xRan μ90 → (tX11_isSmall r92 μ90 (fun r96 μ94 => (r96 = 0 ∨ r96 = 1) → xRan μ94 → (((r96 = 0 → ∀ μ99 : xM, μ99 = wi μ94 260 5 l1_86 → xRan μ99 → ((((μ99 260 8) ≤ 8 → ∀ μ104 : xM, μ104 = wi μ99 260 6 2 → xRan μ104 → (Q μ104)) ∧
  (¬ (μ99 260 8) ≤ 8 → ∀ μ107 : xM, μ107 = wi μ99 260 6 1 → xRan μ107 → (Q μ107))))) ∧
  (r96 = 1 → ((8 ≤ (μ94 260 8) → (xIn ((μ94 260 8) + 1)) ∧ (∀ μ114 : xM, μ114 = wi μ94 260 8 ((μ94 260 8) + 1) → xRan μ114 → (J67 (l1_86 + 1) μ114))) ∧
  (¬ 8 ≤ (μ94 260 8) → tX11_look l1_86 μ94 (fun r120 μ118 => (xIn r120) → xRan μ118 → ((0 ≤ (μ94 260 8) ∧ (μ94 260 8) < 8) ∧ (∀ μ123 : xM, μ123 = wi μ118 262 ((μ94 260 8).toNat) r120 → xRan μ123 → ((xIn ((μ123 260 8) + 1)) ∧ (∀ μ128 : xM, μ128 = wi μ123 260 8 ((μ123 260 8) + 1) → xRan μ128 → (J67 (l1_86 + 1) μ128))))))))))))))))))))) ∧
  (r16 = (-1) → ∀ μ131 : xM, μ131 = wi μ21 260 6 0 → xRan μ131 → (∀ μ134 : xM, μ134 = wi μ131 260 5 l1_2 → xRan μ134 → (Q μ134)))))))))) ∧
  (r8 = 32 → J5 (l1_2 + 1) μ6))))))
def tX11_wrong (p1 : Int) (p2 : Int) (μ : xM) (Q : xM → Prop) : Prop := xRan μ → (xIn p1) → (xIn p2) → 
  (((μ 260 13) = 0 → ∀ μ3 : xM, μ3 = wi μ 260 13 1 → xRan μ3 → (∀ μ6 : xM, μ6 = wi μ3 260 9 p1 → xRan μ6 → (∀ μ9 : xM, μ9 = wi μ6 260 10 p2 → xRan μ9 → (Q μ9)))) ∧
  (¬ (μ 260 13) = 0 → Q μ))
def tX11_isWord (p1 : Nat) (μ : xM) (Q : Int → xM → Prop) : Prop := xRan μ → 
  (((μ 260 13) ≠ 0 → Q 0 μ) ∧
  ((μ 260 13) = 0 → (((μ 260 6) ≠ 2 → Q 0 μ) ∧
  ((μ 260 6) = 2 → (((μ 260 8) = (sLen p1) → xLoop2 1 0 μ (fun J32 l2_7 l3_8 μ9 =>
  (xIn l3_8) ∧ ((((μ9 260 8) ≤ l3_8 → (l2_7 = 0 ∨ l2_7 = 1) ∧ (Q l2_7 μ9)) ∧
  (¬ (μ9 260 8) ≤ l3_8 → (xIn l2_7) ∧ (((l2_7 = 0 → J32 0 (l3_8 + 1) μ9) ∧
  (¬ l2_7 = 0 → (0 ≤ l3_8 ∧ l3_8 < 8) ∧ ((0 ≤ l3_8 ∧ l3_8 < sLen p1) ∧ ((((μ9 262 l3_8.toNat) ≠ (sChr p1 l3_8) → J32 0 (l3_8 + 1) μ9) ∧
  ((μ9 262 l3_8.toNat) = (sChr p1 l3_8) → J32 1 (l3_8 + 1) μ9)))))))))))) ∧
  (¬ (μ 260 8) = (sLen p1) → Q 0 μ))))))
def tX11_takes (p1 : Nat) (μ : xM) (Q : Int → xM → Prop) : Prop := xRan μ → 
  tX11_isWord p1 μ (fun r3 μ1 => (r3 = 0 ∨ r3 = 1) → xRan μ1 → (((r3 = 1 → tX11_next μ1 (fun μ6 => xRan μ6 → (Q 1 μ6))) ∧
  (r3 = 0 → Q 0 μ1))))
def tX11_must (p1 : Nat) (μ : xM) (Q : xM → Prop) : Prop := xRan μ → 
  (((μ 260 13) ≠ 0 → Q μ) ∧
  ((μ 260 13) = 0 → tX11_takes p1 μ (fun r5 μ3 => (r5 = 0 ∨ r5 = 1) → xRan μ3 → (((r5 = 1 → Q μ3) ∧
  (r5 = 0 → tX11_wrong 1 (μ3 260 4) μ3 (fun μ9 => xRan μ9 → (Q μ9))))))))
def tX11_mustWord  (μ : xM) (Q : xM → Prop) : Prop := xRan μ → 
  (((μ 260 13) ≠ 0 → Q μ) ∧
  ((μ 260 13) = 0 → (((μ 260 6) = 2 → Q μ) ∧
  (¬ (μ 260 6) = 2 → tX11_wrong 1 (μ 260 4) μ (fun μ6 => xRan μ6 → (Q μ6))))))
def tX11_number (p1 : Int) (p2 : Int) (μ : xM) (Q : Int → xM → Prop) : Prop := xRan μ → (xIn p1) → (xIn p2) → 
  (((μ 260 13) = 0 → (((μ 260 6) = 3 → tX11_within (μ 260 7) p1 p2 μ (fun r8 μ6 => (r8 = 0 ∨ r8 = 1) → xRan μ6 → (((r8 = 1 → tX11_next μ6 (fun μ11 => xRan μ11 → (Q (μ 260 7) μ11))) ∧
  (r8 = 0 → tX11_wrong 4 (μ6 260 4) μ6 (fun μ14 => xRan μ14 → (Q p1 μ14))))))) ∧
  (¬ (μ 260 6) = 3 → tX11_wrong 1 (μ 260 4) μ (fun μ17 => xRan μ17 → (Q p1 μ17))))) ∧
  (¬ (μ 260 13) = 0 → Q p1 μ))
def tX11_told (p1 : Nat) (p2 : Int) (p3 : Int) (μ : xM) (Q : Int → xM → Prop) : Prop := xRan μ → (xIn p2) → (xIn p3) → 
  tX11_must p1 μ (fun μ1 => xRan μ1 → (tX11_number p2 p3 μ1 (fun r5 μ3 => (xIn r5) → xRan μ3 → (Q r5 μ3))))
def tX11_comma  (μ : xM) (Q : Int → xM → Prop) : Prop := xRan μ → 
  (((μ 260 13) ≠ 0 → Q 0 μ) ∧
  ((μ 260 13) = 0 → (((μ 260 6) = 44 → tX11_next μ (fun μ5 => xRan μ5 → (Q 1 μ5))) ∧
  (¬ (μ 260 6) = 44 → Q 0 μ))))
def tX11_find_b30 (p1 : Int) (p2 : Int) (p3 : Int) (p4 : Int) (b5 : Int) (s0 : Int) (μ : xM) (Q : Int → xM → Prop) (J3 : Int → xM → Prop) : Prop := xRan μ →
  xLoop2 s0 0 μ (fun J35 l6_10 l7_11 μ12 =>
  (xIn l7_11) ∧ ((((μ12 260 8) ≤ l7_11 → (xIn l6_10) ∧ (((l6_10 = 0 → J3 (b5 + 1) μ12) ∧
  (¬ l6_10 = 0 → (xIn b5) ∧ (Q b5 μ12))))) ∧
  (¬ (μ12 260 8) ≤ l7_11 → (xIn l6_10) ∧ (((l6_10 = 0 → ((l6_10 = 0 → J3 (b5 + 1) μ12) ∧
  (¬ l6_10 = 0 → (xIn b5) ∧ (Q b5 μ12)))) ∧
  (¬ l6_10 = 0 → (0 ≤ ((p3 + (p4 * b5)) + l7_11) ∧ ((p3 + (p4 * b5)) + l7_11) < 322) ∧ ((0 ≤ l7_11 ∧ l7_11 < 8) ∧ ((((μ12 264 (((p3 + (p4 * b5)) + l7_11).toNat)) ≠ (μ12 262 l7_11.toNat) → J35 0 (l7_11 + 1) μ12) ∧
  ((μ12 264 (((p3 + (p4 * b5)) + l7_11).toNat)) = (μ12 262 l7_11.toNat) → J35 1 (l7_11 + 1) μ12)))))))))))
def tX11_find (p1 : Int) (p2 : Int) (p3 : Int) (p4 : Int) (μ : xM) (Q : Int → xM → Prop) : Prop := xRan μ → (xIn p1) → (xIn p2) → (xIn p3) → (xIn p4) → 
  xLoop1 0 μ (fun J3 l5_1 μ2 =>
  (xIn l5_1) ∧ (((p1 ≤ l5_1 → Q (-1) μ2) ∧
  (¬ p1 ≤ l5_1 → (0 ≤ (p2 + l5_1) ∧ (p2 + l5_1) < 322) ∧ ((((μ2 264 ((p2 + l5_1).toNat)) ≠ (μ2 260 8) → tX11_find_b30 p1 p2 p3 p4 l5_1 0 μ2 Q J3) ∧
  ((μ2 264 ((p2 + l5_1).toNat)) = (μ2 260 8) → tX11_find_b30 p1 p2 p3 p4 l5_1 1 μ2 Q J3)))))))
def tX11_begins (p1 : Nat) (p2 : Int) (p3 : Int) (μ : xM) (Q : Int → xM → Prop) : Prop := xRan μ → (p2 = 0 ∨ p2 = 1) → (xIn p3) → 
  tX11_isWord p1 μ (fun r3 μ1 => (r3 = 0 ∨ r3 = 1) → xRan μ1 → (((r3 = 1 → ((p2 = 1 → (((μ1 260 13) ≠ 0 → Q 1 μ1) ∧
  ((μ1 260 13) = 0 → tX11_next μ1 (fun μ9 => xRan μ9 → (Q 1 μ9))))) ∧
  (p2 = 0 → tX11_wrong p3 (μ1 260 4) μ1 (fun μ12 => xRan μ12 → ((((μ12 260 13) ≠ 0 → Q 1 μ12) ∧
  ((μ12 260 13) = 0 → tX11_next μ12 (fun μ16 => xRan μ16 → (Q 1 μ16))))))))) ∧
  (r3 = 0 → Q 0 μ1))))
def tX11_innLine_b92  (b1 : Int) (b2 : Int) (μ : xM) (Q : xM → Prop)  : Prop := xRan μ →
  (((μ 260 13) = 0 → tX11_next μ (fun μ35 => xRan μ35 → ((xIn b2) ∧ (∀ μ38 : xM, μ38 = wi μ35 264 2 b2 → xRan μ38 → ((xIn b1) ∧ (∀ μ42 : xM, μ42 = wi μ38 264 0 b1 → xRan μ42 → (Q μ42))))))) ∧
  (¬ (μ 260 13) = 0 → Q μ))
def tX11_innLine_b78  (b1 : Int) (s0 : Int) (μ : xM) (Q : xM → Prop)  : Prop := xRan μ →
  (xIn s0) ∧ (((0 ≤ s0 → tX11_innLine_b92 b1 s0 μ Q ) ∧
  (¬ 0 ≤ s0 → tX11_wrong 1 (μ 260 4) μ (fun μ46 => xRan μ46 → (tX11_innLine_b92 b1 s0 μ46 Q )))))
def tX11_innLine  (μ : xM) (Q : xM → Prop) : Prop := xRan μ → 
  (((μ 260 13) = 0 → tX11_told 1 1 3 μ (fun r5 μ3 => (xIn r5) → xRan μ3 → (tX11_told 2 1 6 μ3 (fun r9 μ7 => (xIn r9) → xRan μ7 → (∀ μ11 : xM, μ11 = wi μ7 264 1 r9 → xRan μ11 → (tX11_must 3 μ11 (fun μ14 => xRan μ14 → (tX11_isWord 4 μ14 (fun r18 μ16 => (r18 = 0 ∨ r18 = 1) → xRan μ16 → (((r18 = 0 → tX11_isWord 5 μ16 (fun r23 μ21 => (r23 = 0 ∨ r23 = 1) → xRan μ21 → (((r23 = 0 → tX11_isWord 6 μ21 (fun r28 μ26 => (r28 = 0 ∨ r28 = 1) → xRan μ26 → (((r28 = 0 → tX11_innLine_b78 r5 (-1) μ26 Q ) ∧
  (r28 = 1 → tX11_innLine_b78 r5 2 μ26 Q ))))) ∧
  (r23 = 1 → tX11_innLine_b78 r5 1 μ21 Q ))))) ∧
  (r18 = 1 → tX11_innLine_b78 r5 0 μ16 Q )))))))))))) ∧
  (¬ (μ 260 13) = 0 → Q μ))
def tX11_wordLine_b74  (b1 : Int) (μ : xM) (Q : xM → Prop)  : Prop := xRan μ →
  (((μ 260 13) = 0 → xLoop1 0 μ (fun J84 l2_12 μ13 =>
  (xIn l2_12) ∧ ((((μ13 260 8) ≤ l2_12 → (0 ≤ (7 + b1) ∧ (7 + b1) < 322) ∧ (∀ μ20 : xM, μ20 = wi μ13 264 ((7 + b1).toNat) (μ13 260 8) → xRan μ20 → (tX11_next μ20 (fun μ23 => xRan μ23 → (tX11_told 8 0 99 μ23 (fun r27 μ25 => (xIn r27) → xRan μ25 → ((0 ≤ (175 + b1) ∧ (175 + b1) < 322) ∧ (∀ μ30 : xM, μ30 = wi μ25 264 ((175 + b1).toNat) r27 → xRan μ30 → (tX11_takes 9 μ30 (fun r35 μ33 => (r35 = 0 ∨ r35 = 1) → xRan μ33 → (((r35 = 0 → (((μ33 260 13) ≠ 0 → Q μ33) ∧
  ((μ33 260 13) = 0 → (xIn ((μ33 264 3) + 1)) ∧ (∀ μ42 : xM, μ42 = wi μ33 264 3 ((μ33 264 3) + 1) → xRan μ42 → (Q μ42))))) ∧
  (r35 = 1 → (0 ≤ (199 + b1) ∧ (199 + b1) < 322) ∧ (∀ μ46 : xM, μ46 = wi μ33 264 ((199 + b1).toNat) 1 → xRan μ46 → ((((μ46 260 13) ≠ 0 → Q μ46) ∧
  ((μ46 260 13) = 0 → (xIn ((μ46 264 3) + 1)) ∧ (∀ μ53 : xM, μ53 = wi μ46 264 3 ((μ46 264 3) + 1) → xRan μ53 → (Q μ53))))))))))))))))))) ∧
  (¬ (μ13 260 8) ≤ l2_12 → (0 ≤ l2_12 ∧ l2_12 < 8) ∧ ((0 ≤ ((31 + (6 * b1)) + l2_12) ∧ ((31 + (6 * b1)) + l2_12) < 322) ∧ (∀ μ59 : xM, μ59 = wi μ13 264 (((31 + (6 * b1)) + l2_12).toNat) (μ13 262 l2_12.toNat) → xRan μ59 → (J84 (l2_12 + 1) μ59)))))))) ∧
  (¬ (μ 260 13) = 0 → Q μ))
def tX11_wordLine_b49  (b1 : Int) (μ : xM) (Q : xM → Prop)  : Prop := xRan μ →
  (((μ 260 13) ≠ 0 → tX11_wordLine_b74 b1 μ Q ) ∧
  ((μ 260 13) = 0 → (((μ 260 8) ≤ 6 → tX11_wordLine_b74 b1 μ Q ) ∧
  (¬ (μ 260 8) ≤ 6 → tX11_wrong 4 (μ 260 4) μ (fun μ65 => xRan μ65 → (tX11_wordLine_b74 b1 μ65 Q ))))))
def tX11_wordLine  (μ : xM) (Q : xM → Prop) : Prop := xRan μ → 
  (((μ 260 13) = 0 → tX11_mustWord μ (fun μ4 => xRan μ4 → ((((μ4 260 13) ≠ 0 → tX11_wordLine_b49 (μ 264 3) μ4 Q ) ∧
  ((μ4 260 13) = 0 → tX11_find (μ 264 3) 7 31 6 μ4 (fun r69 μ67 => (xIn r69) → xRan μ67 → (((r69 < 0 → tX11_wordLine_b49 (μ 264 3) μ67 Q ) ∧
  (¬ r69 < 0 → tX11_wrong 3 (μ67 260 4) μ67 (fun μ73 => xRan μ73 → (tX11_wordLine_b49 (μ 264 3) μ73 Q ))))))))))) ∧
  (¬ (μ 260 13) = 0 → Q μ))
def tX11_guestLine_b82  (b2 : Int) (μ : xM) (Q : xM → Prop) (J13 : Int → xM → Prop) : Prop := xRan μ →
  (((μ 260 13) = 0 → xLoop1 0 μ (fun J92 l3_17 μ18 =>
  (xIn l3_17) ∧ ((((μ18 260 8) ≤ l3_17 → (0 ≤ (223 + b2) ∧ (223 + b2) < 322) ∧ (∀ μ25 : xM, μ25 = wi μ18 264 ((223 + b2).toNat) (μ18 260 8) → xRan μ25 → ((0 ≤ (295 + b2) ∧ (295 + b2) < 322) ∧ ((xIn ((μ25 262 0) - 97)) ∧ (∀ μ31 : xM, μ31 = wi μ25 264 ((295 + b2).toNat) ((μ25 262 0) - 97) → xRan μ31 → ((xIn ((μ31 264 4) + 1)) ∧ (∀ μ36 : xM, μ36 = wi μ31 264 4 ((μ31 264 4) + 1) → xRan μ36 → (tX11_next μ36 (fun μ39 => xRan μ39 → (tX11_comma μ39 (fun r43 μ41 => (r43 = 0 ∨ r43 = 1) → xRan μ41 → (J13 r43 μ41)))))))))))) ∧
  (¬ (μ18 260 8) ≤ l3_17 → (0 ≤ l3_17 ∧ l3_17 < 8) ∧ ((0 ≤ ((231 + (8 * b2)) + l3_17) ∧ ((231 + (8 * b2)) + l3_17) < 322) ∧ (∀ μ48 : xM, μ48 = wi μ18 264 (((231 + (8 * b2)) + l3_17).toNat) (μ18 262 l3_17.toNat) → xRan μ48 → (J92 (l3_17 + 1) μ48)))))))) ∧
  (¬ (μ 260 13) = 0 → Q μ))
def tX11_guestLine_b60  (b2 : Int) (μ : xM) (Q : xM → Prop) (J13 : Int → xM → Prop) : Prop := xRan μ →
  (((μ 260 13) ≠ 0 → tX11_guestLine_b82 b2 μ Q J13) ∧
  ((μ 260 13) = 0 → (xIn b2) ∧ (((b2 ≠ 8 → tX11_guestLine_b82 b2 μ Q J13) ∧
  (b2 = 8 → tX11_wrong 5 (μ 260 4) μ (fun μ54 => xRan μ54 → (tX11_guestLine_b82 b2 μ54 Q J13)))))))
def tX11_guestLine  (μ : xM) (Q : xM → Prop) : Prop := xRan μ → 
  (((μ 260 13) ≠ 0 → xLoop1 0 μ (fun J13 l1_3 μ4 =>
  (xIn l1_3) ∧ (((l1_3 = 0 → Q μ4) ∧
  (¬ l1_3 = 0 → tX11_mustWord μ4 (fun μ8 => xRan μ8 → ((((μ8 260 13) ≠ 0 → tX11_guestLine_b60 (μ8 264 4) μ8 Q J13) ∧
  ((μ8 260 13) = 0 → tX11_find (μ8 264 4) 223 231 8 μ8 (fun r58 μ56 => (xIn r58) → xRan μ56 → (((r58 < 0 → tX11_guestLine_b60 (μ8 264 4) μ56 Q J13) ∧
  (¬ r58 < 0 → tX11_wrong 3 (μ56 260 4) μ56 (fun μ62 => xRan μ62 → (tX11_guestLine_b60 (μ8 264 4) μ62 Q J13))))))))))))))) ∧
  ((μ 260 13) = 0 → xLoop1 1 μ (fun J13 l1_64 μ65 =>
  (xIn l1_64) ∧ (((l1_64 = 0 → Q μ65) ∧
  (¬ l1_64 = 0 → tX11_mustWord μ65 (fun μ69 => xRan μ69 → ((((μ69 260 13) ≠ 0 → tX11_guestLine_b60 (μ69 264 4) μ69 Q J13) ∧
  ((μ69 260 13) = 0 → tX11_find (μ69 264 4) 223 231 8 μ69 (fun r76 μ74 => (xIn r76) → xRan μ74 → (((r76 < 0 → tX11_guestLine_b60 (μ69 264 4) μ74 Q J13) ∧
  (¬ r76 < 0 → tX11_wrong 3 (μ74 260 4) μ74 (fun μ80 => xRan μ80 → (tX11_guestLine_b60 (μ69 264 4) μ80 Q J13))))))))))))))))
def tX11_likelyLine_b119  (b1 : Int) (μ : xM) (Q : xM → Prop)  : Prop := xRan μ →
  (((μ 260 13) = 0 → (0 ≤ (303 + b1) ∧ (303 + b1) < 322) ∧ ((xIn ((μ 262 0) - 97)) ∧ (∀ μ23 : xM, μ23 = wi μ 264 ((303 + b1).toNat) ((μ 262 0) - 97) → xRan μ23 → (tX11_next μ23 (fun μ26 => xRan μ26 → (tX11_number 1 9 μ26 (fun r30 μ28 => (xIn r30) → xRan μ28 → ((0 ≤ (309 + b1) ∧ (309 + b1) < 322) ∧ (∀ μ33 : xM, μ33 = wi μ28 264 ((309 + b1).toNat) r30 → xRan μ33 → ((((μ33 260 13) ≠ 0 → Q μ33) ∧
  ((μ33 260 13) = 0 → (xIn ((μ33 264 5) + 1)) ∧ (∀ μ40 : xM, μ40 = wi μ33 264 5 ((μ33 264 5) + 1) → xRan μ40 → (Q μ40)))))))))))))) ∧
  (¬ (μ 260 13) = 0 → Q μ))
def tX11_likelyLine_b95  (b1 : Int) (μ : xM) (Q : xM → Prop)  : Prop := xRan μ →
  (((μ 260 13) ≠ 0 → tX11_likelyLine_b119 b1 μ Q ) ∧
  ((μ 260 13) = 0 → (((μ 260 8) ≤ 1 → tX11_likelyLine_b119 b1 μ Q ) ∧
  (¬ (μ 260 8) ≤ 1 → tX11_wrong 4 (μ 260 4) μ (fun μ46 => xRan μ46 → (tX11_likelyLine_b119 b1 μ46 Q ))))))
def tX11_likelyLine  (μ : xM) (Q : xM → Prop) : Prop := xRan μ → 
  (((μ 260 13) = 0 → tX11_mustWord μ (fun μ4 => xRan μ4 → ((((μ4 260 13) = 0 → xLoop2 0 0 μ4 (fun J31 l2_8 l3_9 μ10 =>
  (xIn l3_9) ∧ ((((μ 264 5) ≤ l3_9 → (xIn l2_8) ∧ (((l2_8 = 0 → tX11_likelyLine_b95 (μ 264 5) μ10 Q ) ∧
  (¬ l2_8 = 0 → tX11_wrong 3 (μ10 260 4) μ10 (fun μ49 => xRan μ49 → (tX11_likelyLine_b95 (μ 264 5) μ49 Q )))))) ∧
  (¬ (μ 264 5) ≤ l3_9 → (xIn l2_8) ∧ (((l2_8 ≠ 0 → J31 1 (l3_9 + 1) μ10) ∧
  (l2_8 = 0 → (((μ10 260 8) ≠ 1 → J31 0 (l3_9 + 1) μ10) ∧
  ((μ10 260 8) = 1 → (0 ≤ (303 + l3_9) ∧ (303 + l3_9) < 322) ∧ ((xIn ((μ10 262 0) - 97)) ∧ ((((μ10 264 ((303 + l3_9).toNat)) ≠ ((μ10 262 0) - 97) → J31 0 (l3_9 + 1) μ10) ∧
  ((μ10 264 ((303 + l3_9).toNat)) = ((μ10 262 0) - 97) → J31 1 (l3_9 + 1) μ10)))))))))))))) ∧
  (¬ (μ4 260 13) = 0 → Q μ4))))) ∧
  (¬ (μ 260 13) = 0 → Q μ))
def tX11_seenLine_b103  (b2 : Int) (μ : xM) (Q : xM → Prop) (J19 : Int → xM → Prop) : Prop := xRan μ →
  (((μ 260 13) = 0 → (0 ≤ (315 + (μ 264 6)) ∧ (315 + (μ 264 6)) < 322) ∧ ((xIn b2) ∧ (∀ μ29 : xM, μ29 = wi μ 264 ((315 + (μ 264 6)).toNat) b2 → xRan μ29 → ((xIn ((μ29 264 6) + 1)) ∧ (∀ μ34 : xM, μ34 = wi μ29 264 6 ((μ29 264 6) + 1) → xRan μ34 → (tX11_next μ34 (fun μ37 => xRan μ37 → (tX11_comma μ37 (fun r41 μ39 => (r41 = 0 ∨ r41 = 1) → xRan μ39 → (J19 r41 μ39)))))))))) ∧
  (¬ (μ 260 13) = 0 → Q μ))
def tX11_seenLine_b75  (b2 : Int) (μ : xM) (Q : xM → Prop) (J19 : Int → xM → Prop) : Prop := xRan μ →
  (((μ 260 13) ≠ 0 → tX11_seenLine_b103 b2 μ Q J19) ∧
  ((μ 260 13) = 0 → (((μ 264 6) ≠ 6 → tX11_seenLine_b103 b2 μ Q J19) ∧
  ((μ 264 6) = 6 → tX11_wrong 5 (μ 260 4) μ (fun μ46 => xRan μ46 → (tX11_seenLine_b103 b2 μ46 Q J19))))))
def tX11_seenLine_b54  (s0 : Int) (μ : xM) (Q : xM → Prop) (J19 : Int → xM → Prop) : Prop := xRan μ →
  (((μ 260 13) ≠ 0 → tX11_seenLine_b75 s0 μ Q J19) ∧
  ((μ 260 13) = 0 → (xIn s0) ∧ (((0 ≤ s0 → tX11_seenLine_b75 s0 μ Q J19) ∧
  (¬ 0 ≤ s0 → tX11_wrong 2 (μ 260 4) μ (fun μ51 => xRan μ51 → (tX11_seenLine_b75 s0 μ51 Q J19)))))))
def tX11_seenLine  (μ : xM) (Q : xM → Prop) : Prop := xRan μ → 
  (((μ 260 13) = 0 → ∀ μ3 : xM, μ3 = wi μ 264 321 1 → xRan μ3 → (xLoop1 1 μ3 (fun J19 l1_6 μ7 =>
  (xIn l1_6) ∧ (((l1_6 = 0 → Q μ7) ∧
  (¬ l1_6 = 0 → tX11_mustWord μ7 (fun μ11 => xRan μ11 → ((((μ11 260 13) = 0 → tX11_find (μ11 264 3) 7 31 6 μ11 (fun r18 μ16 => (xIn r18) → xRan μ16 → (tX11_seenLine_b54 r18 μ16 Q J19))) ∧
  (¬ (μ11 260 13) = 0 → tX11_seenLine_b54 (-1) μ11 Q J19)))))))))) ∧
  (¬ (μ 260 13) = 0 → Q μ))
def tX11_readLine_b134  (s2 : Int) (μ : xM) (Q : xM → Prop)  : Prop := xRan μ →
  (s2 = 0 ∨ s2 = 1) ∧ (tX11_begins 12 s2 3 μ (fun r35 μ33 => (r35 = 0 ∨ r35 = 1) → xRan μ33 → (((r35 = 0 → tX11_wrong 1 (μ33 260 4) μ33 (fun μ39 => xRan μ39 → (Q μ39))) ∧
  (r35 = 1 → tX11_seenLine μ33 (fun μ41 => xRan μ41 → (Q μ41)))))))
def tX11_readLine_b101  (s2 : Int) (μ : xM) (Q : xM → Prop)  : Prop := xRan μ →
  (s2 = 0 ∨ s2 = 1) ∧ (tX11_begins 11 s2 5 μ (fun r27 μ25 => (r27 = 0 ∨ r27 = 1) → xRan μ25 → (((r27 = 0 → (((μ25 264 321) ≠ 0 → tX11_readLine_b134 0 μ25 Q ) ∧
  ((μ25 264 321) = 0 → tX11_readLine_b134 1 μ25 Q ))) ∧
  (r27 = 1 → tX11_likelyLine μ25 (fun μ43 => xRan μ43 → (Q μ43)))))))
def tX11_readLine_b50  (s2 : Int) (μ : xM) (Q : xM → Prop)  : Prop := xRan μ →
  (s2 = 0 ∨ s2 = 1) ∧ (tX11_begins 7 s2 5 μ (fun r14 μ12 => (r14 = 0 ∨ r14 = 1) → xRan μ12 → (((r14 = 0 → tX11_begins 10 1 1 μ12 (fun r19 μ17 => (r19 = 0 ∨ r19 = 1) → xRan μ17 → (((r19 = 0 → ((6 ≤ (μ17 264 5) → tX11_readLine_b101 0 μ17 Q ) ∧
  (¬ 6 ≤ (μ17 264 5) → tX11_readLine_b101 1 μ17 Q ))) ∧
  (r19 = 1 → tX11_guestLine μ17 (fun μ45 => xRan μ45 → (Q μ45))))))) ∧
  (r14 = 1 → tX11_wordLine μ12 (fun μ47 => xRan μ47 → (Q μ47)))))))
def tX11_readLine_b17  (s2 : Int) (μ : xM) (Q : xM → Prop)  : Prop := xRan μ →
  (s2 = 0 ∨ s2 = 1) ∧ (tX11_begins 0 s2 3 μ (fun r6 μ4 => (r6 = 0 ∨ r6 = 1) → xRan μ4 → (((r6 = 0 → ((24 ≤ (μ4 264 3) → tX11_readLine_b50 0 μ4 Q ) ∧
  (¬ 24 ≤ (μ4 264 3) → tX11_readLine_b50 1 μ4 Q ))) ∧
  (r6 = 1 → tX11_innLine μ4 (fun μ49 => xRan μ49 → (Q μ49)))))))
def tX11_readLine  (μ : xM) (Q : xM → Prop) : Prop := xRan μ → 
  (((μ 264 0) ≠ 0 → tX11_readLine_b17 0 μ Q ) ∧
  ((μ 264 0) = 0 → tX11_readLine_b17 1 μ Q ))
def tX11_isGood (p1 : Int) (μ : xM) (Q : Int → xM → Prop) : Prop := xRan μ → (xIn p1) → 
  (0 ≤ (199 + p1) ∧ (199 + p1) < 322) ∧ ((((μ 263 ((199 + p1).toNat)) ≠ 0 → Q 0 μ) ∧
  ((μ 263 ((199 + p1).toNat)) = 0 → (0 ≤ (7 + p1) ∧ (7 + p1) < 322) ∧ ((((μ 263 1) < (μ 263 ((7 + p1).toNat)) → Q 0 μ) ∧
  (¬ (μ 263 1) < (μ 263 ((7 + p1).toNat)) → Q 1 μ))))))
def tX11_letterAt (p1 : Int) (p2 : Int) (μ : xM) (Q : Int → xM → Prop) : Prop := xRan μ → (xIn p1) → (xIn p2) → 
  (0 ≤ ((31 + (6 * p1)) + p2) ∧ ((31 + (6 * p1)) + p2) < 322) ∧ ((xIn ((μ 263 (((31 + (6 * p1)) + p2).toNat)) - 97)) ∧ (Q ((μ 263 (((31 + (6 * p1)) + p2).toNat)) - 97) μ))
def tX11_isWithout_b42 (p1 : Int) (p2 : Int) (p3 : Int) (b5 : Int) (s1 : Int) (s2 : Int) (μ : xM) (Q : Int → xM → Prop) (J6 : Int → Int → xM → Prop) : Prop := xRan μ →
  (xIn s1) ∧ ((xIn s2) ∧ (tX11_letterAt s1 s2 μ (fun r17 μ15 => (xIn r17) → xRan μ15 → ((xIn b5) ∧ (tX11_letterAt p3 b5 μ15 (fun r22 μ20 => (xIn r22) → xRan μ20 → (((r17 ≠ r22 → J6 0 (b5 + 1) μ20) ∧
  (r17 = r22 → J6 1 (b5 + 1) μ20)))))))))
def tX11_isWithout (p1 : Int) (p2 : Int) (p3 : Int) (μ : xM) (Q : Int → xM → Prop) : Prop := xRan μ → (xIn p1) → (xIn p2) → (xIn p3) → 
  xLoop2 1 0 μ (fun J6 l4_1 l5_2 μ3 =>
  (0 ≤ (7 + p3) ∧ (7 + p3) < 322) ∧ ((xIn l5_2) ∧ ((((μ3 263 ((7 + p3).toNat)) ≤ l5_2 → (l4_1 = 0 ∨ l4_1 = 1) ∧ (Q l4_1 μ3)) ∧
  (¬ (μ3 263 ((7 + p3).toNat)) ≤ l5_2 → (xIn l4_1) ∧ (((l4_1 = 0 → J6 0 (l5_2 + 1) μ3) ∧
  (¬ l4_1 = 0 → ((p2 ≤ l5_2 → tX11_isWithout_b42 p1 p2 p3 l5_2 p1 (l5_2 + 1) μ3 Q J6) ∧
  (¬ p2 ≤ l5_2 → tX11_isWithout_b42 p1 p2 p3 l5_2 p1 l5_2 μ3 Q J6))))))))))
def tX11_growth_b149 (p1 : Int) (p2 : Int) (b3 : Int) (b4 : Int) (s0 : Int) (μ : xM) (Q : Int → xM → Prop) (J106 : Int → xM → Prop) : Prop := xRan μ →
  (xIn s0) ∧ (((s0 = 0 → J106 (b4 + 1) μ) ∧
  (¬ s0 = 0 → (xIn b4) ∧ (tX11_isWithout p2 b4 p1 μ (fun r35 μ33 => (r35 = 0 ∨ r35 = 1) → xRan μ33 → (((r35 = 0 → J106 (b4 + 1) μ33) ∧
  (r35 = 1 → tX11_letterAt p2 b4 μ33 (fun r40 μ38 => (xIn r40) → xRan μ38 → (Q r40 μ38))))))))))
def tX11_growth_b144 (p1 : Int) (p2 : Int) (b3 : Int) (b4 : Int) (μ : xM) (Q : Int → xM → Prop) (J106 : Int → xM → Prop) : Prop := xRan μ →
  tX11_growth_b149 p1 p2 b3 b4 1 μ Q J106
def tX11_growth_b148 (p1 : Int) (p2 : Int) (b3 : Int) (b4 : Int) (μ : xM) (Q : Int → xM → Prop) (J106 : Int → xM → Prop) : Prop := xRan μ →
  tX11_growth_b149 p1 p2 b3 b4 0 μ Q J106
def tX11_growth (p1 : Int) (p2 : Int) (μ : xM) (Q : Int → xM → Prop) : Prop := xRan μ → (xIn p1) → (xIn p2) → 
  (((μ 263 3) ≤ p2 → Q (-1) μ) ∧
  (¬ (μ 263 3) ≤ p2 → tX11_isGood p2 μ (fun r5 μ3 => (r5 = 0 ∨ r5 = 1) → xRan μ3 → (((r5 = 1 → ((p1 ≠ 24 → (((μ3 263 3) ≤ p1 → Q (-1) μ3) ∧
  (¬ (μ3 263 3) ≤ p1 → tX11_isGood p1 μ3 (fun r13 μ11 => (r13 = 0 ∨ r13 = 1) → xRan μ11 → (((r13 = 0 → Q (-1) μ11) ∧
  (r13 = 1 → (0 ≤ (7 + p2) ∧ (7 + p2) < 322) ∧ ((0 ≤ (7 + p1) ∧ (7 + p1) < 322) ∧ ((xIn ((μ11 263 ((7 + p1).toNat)) + 1)) ∧ ((((μ11 263 ((7 + p2).toNat)) = ((μ11 263 ((7 + p1).toNat)) + 1) → xLoop1 0 μ11 (fun J106 l4_23 μ24 =>
  (xIn l4_23) ∧ ((((μ11 263 ((7 + p2).toNat)) ≤ l4_23 → Q (-1) μ24) ∧
  (¬ (μ11 263 ((7 + p2).toNat)) ≤ l4_23 → (((μ24 263 2) = 0 → tX11_growth_b144 p1 p2 (μ11 263 ((7 + p2).toNat)) l4_23 μ24 Q J106) ∧
  (¬ (μ24 263 2) = 0 → (xIn ((μ11 263 ((7 + p2).toNat)) - 1)) ∧ (((l4_23 = ((μ11 263 ((7 + p2).toNat)) - 1) → tX11_growth_b144 p1 p2 (μ11 263 ((7 + p2).toNat)) l4_23 μ24 Q J106) ∧
  (¬ l4_23 = ((μ11 263 ((7 + p2).toNat)) - 1) → (((μ24 263 2) ≠ 1 → tX11_growth_b148 p1 p2 (μ11 263 ((7 + p2).toNat)) l4_23 μ24 Q J106) ∧
  ((μ24 263 2) = 1 → ((l4_23 ≠ 0 → tX11_growth_b148 p1 p2 (μ11 263 ((7 + p2).toNat)) l4_23 μ24 Q J106) ∧
  (l4_23 = 0 → tX11_growth_b144 p1 p2 (μ11 263 ((7 + p2).toNat)) l4_23 μ24 Q J106)))))))))))))) ∧
  (¬ (μ11 263 ((7 + p2).toNat)) = ((μ11 263 ((7 + p1).toNat)) + 1) → Q (-1) μ11)))))))))))) ∧
  (p1 = 24 → (0 ≤ (7 + p2) ∧ (7 + p2) < 322) ∧ ((((μ3 263 ((7 + p2).toNat)) ≠ 1 → Q (-1) μ3) ∧
  ((μ3 263 ((7 + p2).toNat)) = 1 → tX11_letterAt p2 0 μ3 (fun r52 μ50 => (xIn r52) → xRan μ50 → (Q r52 μ50)))))))) ∧
  (r5 = 0 → Q (-1) μ3))))))
def tX11_layGrows_b102  (b1 : Int) (b2 : Int) (μ : xM) (Q : xM → Prop) (J48 : Int → xM → Prop) (J54 : Int → xM → Prop) : Prop := xRan μ →
  xLoop3 0 0 0 μ (fun J110 l3_56 l4_57 l5_58 μ59 =>
  (xIn l5_58) ∧ ((((μ59 263 3) ≤ l5_58 → xLoop1 0 μ59 (fun J189 l5_64 μ65 =>
  (((xAnd (xShr l4_57 l5_64) 1) ≠ 1 → (0 ≤ b2 ∧ b2 < 25) ∧ ((xIn l5_64) ∧ (∀ μ70 : xM, μ70 = wi μ65 269 b2.toNat l5_64 → xRan μ70 → ((xIn b2) ∧ (((b2 = 24 → J54 (b2 + 1) μ70) ∧
  (¬ b2 = 24 → (0 ≤ b2 ∧ b2 < 24) ∧ ((xIn l3_56) ∧ (∀ μ77 : xM, μ77 = wi μ70 268 b2.toNat l3_56 → xRan μ77 → (J54 (b2 + 1) μ77)))))))))) ∧
  ((xAnd (xShr l4_57 l5_64) 1) = 1 → J189 (l5_64 + 1) μ65)))) ∧
  (¬ (μ59 263 3) ≤ l5_58 → (0 ≤ ((24 * b2) + l5_58) ∧ ((24 * b2) + l5_58) < 600) ∧ (((0 ≤ (μ59 267 (((24 * b2) + l5_58).toNat)) → (0 ≤ l5_58 ∧ l5_58 < 24) ∧ ((xIn ((μ59 268 l5_58.toNat) + 1)) ∧ ((xIn l3_56) ∧ (((((μ59 268 l5_58.toNat) + 1) ≤ l3_56 → (0 ≤ l5_58 ∧ l5_58 < 25) ∧ (J110 l3_56 (xOr l4_57 (xShl 1 (μ59 269 l5_58.toNat))) (l5_58 + 1) μ59)) ∧
  (¬ ((μ59 268 l5_58.toNat) + 1) ≤ l3_56 → (0 ≤ l5_58 ∧ l5_58 < 25) ∧ (J110 ((μ59 268 l5_58.toNat) + 1) (xOr l4_57 (xShl 1 (μ59 269 l5_58.toNat))) (l5_58 + 1) μ59))))))) ∧
  (¬ 0 ≤ (μ59 267 (((24 * b2) + l5_58).toNat)) → J110 l3_56 l4_57 (l5_58 + 1) μ59)))))))
def tX11_layGrows_b89  (b1 : Int) (b2 : Int) (μ : xM) (Q : xM → Prop) (J48 : Int → xM → Prop) (J54 : Int → xM → Prop) : Prop := xRan μ →
  (xIn b2) ∧ (((b2 ≠ 24 → tX11_layGrows_b102 b1 b2 μ Q J48 J54) ∧
  (b2 = 24 → (xIn b1) ∧ (((b1 ≤ 0 → tX11_layGrows_b102 b1 b2 μ Q J48 J54) ∧
  (¬ b1 ≤ 0 → J54 (b2 + 1) μ))))))
def tX11_layGrows  (μ : xM) (Q : xM → Prop) : Prop := xRan μ → 
  xLoop1 0 μ (fun J2 l1_1 μ2 =>
  (xIn l1_1) ∧ (((24 < l1_1 → xLoop1 6 μ2 (fun J48 l1_6 μ7 =>
  (xIn l1_6) ∧ (((l1_6 < 0 → xLoop1 1 μ7 (fun J241 l1_11 μ12 =>
  (xIn l1_11) ∧ (((6 < l1_11 → Q μ12) ∧
  (¬ 6 < l1_11 → xLoop1 0 μ12 (fun J249 l2_16 μ17 =>
  (xIn l2_16) ∧ ((((μ17 263 3) ≤ l2_16 → J241 (l1_11 + 1) μ17) ∧
  (¬ (μ17 263 3) ≤ l2_16 → (0 ≤ (7 + l2_16) ∧ (7 + l2_16) < 322) ∧ ((xIn l1_11) ∧ ((((μ17 263 ((7 + l2_16).toNat)) = l1_11 → (0 ≤ l2_16 ∧ l2_16 < 24) ∧ (∀ μ27 : xM, μ27 = wi μ17 270 l2_16.toNat l1_11 → xRan μ27 → (xLoop1 0 μ27 (fun J284 l3_30 μ31 =>
  (xIn l3_30) ∧ ((((μ31 263 3) ≤ l3_30 → J249 (l2_16 + 1) μ31) ∧
  (¬ (μ31 263 3) ≤ l3_30 → (0 ≤ ((24 * l3_30) + l2_16) ∧ ((24 * l3_30) + l2_16) < 600) ∧ ((((μ31 267 (((24 * l3_30) + l2_16).toNat)) < 0 → J284 (l3_30 + 1) μ31) ∧
  (¬ (μ31 267 (((24 * l3_30) + l2_16).toNat)) < 0 → (0 ≤ l3_30 ∧ l3_30 < 24) ∧ ((0 ≤ l2_16 ∧ l2_16 < 24) ∧ ((((μ31 270 l2_16.toNat) ≤ (μ31 270 l3_30.toNat) → J284 (l3_30 + 1) μ31) ∧
  (¬ (μ31 270 l2_16.toNat) ≤ (μ31 270 l3_30.toNat) → ∀ μ45 : xM, μ45 = wi μ31 270 l2_16.toNat (μ31 270 l3_30.toNat) → xRan μ45 → (J284 (l3_30 + 1) μ45))))))))))))))) ∧
  (¬ (μ17 263 ((7 + l2_16).toNat)) = l1_11 → J249 (l2_16 + 1) μ17))))))))))))) ∧
  (¬ l1_6 < 0 → xLoop1 0 μ7 (fun J54 l2_48 μ49 =>
  (xIn l2_48) ∧ (((24 < l2_48 → J48 (l1_6 + (-1)) μ49) ∧
  (¬ 24 < l2_48 → ((l2_48 = 24 → tX11_layGrows_b89 l1_6 l2_48 μ49 Q J48 J54) ∧
  (¬ l2_48 = 24 → (((μ49 263 3) ≤ l2_48 → J54 (l2_48 + 1) μ49) ∧
  (¬ (μ49 263 3) ≤ l2_48 → (0 ≤ (7 + l2_48) ∧ (7 + l2_48) < 322) ∧ ((xIn l1_6) ∧ ((((μ49 263 ((7 + l2_48).toNat)) ≠ l1_6 → J54 (l2_48 + 1) μ49) ∧
  ((μ49 263 ((7 + l2_48).toNat)) = l1_6 → tX11_layGrows_b89 l1_6 l2_48 μ49 Q J48 J54))))))))))))))))) ∧
  (¬ 24 < l1_1 → xLoop1 0 μ2 (fun J10 l2_101 μ102 =>
  (xIn l2_101) ∧ (((24 ≤ l2_101 → J2 (l1_1 + 1) μ102) ∧
  (¬ 24 ≤ l2_101 → (xIn l1_1) ∧ (tX11_growth l1_1 l2_101 μ102 (fun r109 μ107 => (xIn r109) → xRan μ107 → ((0 ≤ ((24 * l1_1) + l2_101) ∧ ((24 * l1_1) + l2_101) < 600) ∧ (∀ μ112 : xM, μ112 = wi μ107 267 (((24 * l1_1) + l2_101).toNat) r109 → xRan μ112 → (J10 (l2_101 + 1) μ112)))))))))))))
def tX11_begin (p1 : Int) (μ : xM) (Q : xM → Prop) : Prop := xRan μ → (xIn p1) → 
  xLoop1 0 μ (fun J2 l2_1 μ2 =>
  (xIn l2_1) ∧ (((3 ≤ l2_1 → ∀ μ6 : xM, μ6 = wi μ2 265 3 p1 → xRan μ6 → (∀ μ9 : xM, μ9 = wi μ6 265 4 0 → xRan μ9 → (∀ μ12 : xM, μ12 = wi μ9 265 5 0 → xRan μ12 → (Q μ12)))) ∧
  (¬ 3 ≤ l2_1 → (0 ≤ l2_1 ∧ l2_1 < 6) ∧ (∀ μ16 : xM, μ16 = wi μ2 265 l2_1.toNat 24 → xRan μ16 → (J2 (l2_1 + 1) μ16))))))
def tX11_inn_b171 (p1 : Int)  (μ : xM) (Q : Int → xM → Prop)  : Prop := xRan μ →
  (((μ 260 13) = 0 → xLoop1 0 μ (fun J186 l2_43 μ44 =>
  (xIn l2_43) ∧ (((322 ≤ l2_43 → ∀ μ48 : xM, μ48 = wi μ44 260 14 1 → xRan μ48 → (tX11_layGrows μ48 (fun μ51 => xRan μ51 → (tX11_begin 0 μ51 (fun μ53 => xRan μ53 → (∀ μ55 : xM, μ55 = wi μ53 260 19 0 → xRan μ55 → (Q (μ55 263 4) μ55))))))) ∧
  (¬ 322 ≤ l2_43 → (0 ≤ l2_43 ∧ l2_43 < 322) ∧ (∀ μ61 : xM, μ61 = wi μ44 263 l2_43.toNat (μ44 264 l2_43.toNat) → xRan μ61 → (J186 (l2_43 + 1) μ61))))))) ∧
  (¬ (μ 260 13) = 0 → tX11_no 4 μ (fun r66 μ64 => (xIn r66) → xRan μ64 → (Q r66 μ64))))
def tX11_inn_b161 (p1 : Int)  (μ : xM) (Q : Int → xM → Prop)  : Prop := xRan μ →
  tX11_wrong 6 (μ 260 4) μ (fun μ71 => xRan μ71 → (tX11_inn_b171 p1 μ71 Q ))
def tX11_inn_b127 (p1 : Int)  (μ : xM) (Q : Int → xM → Prop)  : Prop := xRan μ →
  (((μ 260 13) ≠ 0 → tX11_inn_b171 p1 μ Q ) ∧
  ((μ 260 13) = 0 → (((μ 264 0) = 0 → tX11_inn_b161 p1 μ Q ) ∧
  (¬ (μ 264 0) = 0 → (((μ 264 3) = 0 → tX11_inn_b161 p1 μ Q ) ∧
  (¬ (μ 264 3) = 0 → (((μ 264 4) ≠ 0 → tX11_inn_b171 p1 μ Q ) ∧
  ((μ 264 4) = 0 → tX11_inn_b161 p1 μ Q ))))))))
def tX11_inn_b104 (p1 : Int)  (μ : xM) (Q : Int → xM → Prop)  : Prop := xRan μ →
  (((μ 260 13) ≠ 0 → tX11_inn_b127 p1 μ Q ) ∧
  ((μ 260 13) = 0 → (((μ 260 6) = 0 → tX11_inn_b127 p1 μ Q ) ∧
  (¬ (μ 260 6) = 0 → tX11_wrong 1 (μ 260 4) μ (fun μ80 => xRan μ80 → (tX11_inn_b127 p1 μ80 Q ))))))
def tX11_inn (p1 : Int) (μ : xM) (Q : Int → xM → Prop) : Prop := xRan μ → (xIn p1) → 
  tX11_good μ (fun μ1 => xRan μ1 → (tX11_within p1 0 (μ1 260 2) μ1 (fun r6 μ4 => (r6 = 0 ∨ r6 = 1) → xRan μ4 → (((r6 = 1 → ∀ μ9 : xM, μ9 = wi μ4 260 2 0 → xRan μ9 → (∀ μ12 : xM, μ12 = wi μ9 260 9 0 → xRan μ12 → (∀ μ15 : xM, μ15 = wi μ12 260 13 0 → xRan μ15 → (xLoop1 0 μ15 (fun J39 l2_18 μ19 =>
  (xIn l2_18) ∧ (((322 ≤ l2_18 → ∀ μ23 : xM, μ23 = wi μ19 260 3 p1 → xRan μ23 → (∀ μ26 : xM, μ26 = wi μ23 260 5 0 → xRan μ26 → (tX11_next μ26 (fun μ29 => xRan μ29 → (tX11_readLine μ29 (fun μ31 => xRan μ31 → (xLoop0 μ31 (fun J77 μ33 =>
  (((μ33 260 13) ≠ 0 → tX11_inn_b104 p1 μ33 Q ) ∧
  ((μ33 260 13) = 0 → (((μ33 260 6) ≠ 59 → tX11_inn_b104 p1 μ33 Q ) ∧
  ((μ33 260 6) = 59 → tX11_next μ33 (fun μ84 => xRan μ84 → (tX11_readLine μ84 (fun μ86 => xRan μ86 → (J77 μ86)))))))))))))))) ∧
  (¬ 322 ≤ l2_18 → (0 ≤ l2_18 ∧ l2_18 < 322) ∧ (∀ μ89 : xM, μ89 = wi μ19 264 l2_18.toNat 0 → xRan μ89 → (J39 (l2_18 + 1) μ89)))))))))) ∧
  (r6 = 0 → tX11_no 2 μ4 (fun r94 μ92 => (xIn r94) → xRan μ92 → (Q r94 μ92))))))))
def tX11_fault  (μ : xM) (Q : Int → xM → Prop) : Prop := xRan μ → 
  ∀ μ1 : xM, μ1 = wi μ 260 0 0 → xRan μ1 → (Q (μ1 260 9) μ1)
def tX11_where  (μ : xM) (Q : Int → xM → Prop) : Prop := xRan μ → 
  ∀ μ1 : xM, μ1 = wi μ 260 0 0 → xRan μ1 → ((((μ1 260 11) ≠ 4 → Q (-1) μ1) ∧
  ((μ1 260 11) = 4 → Q (μ1 260 10) μ1)))
def tX11_isWordThere (p1 : Int) (μ : xM) (Q : Int → xM → Prop) : Prop := xRan μ → (xIn p1) → 
  (((μ 260 14) = 0 → Q 0 μ) ∧
  (¬ (μ 260 14) = 0 → (xIn ((μ 263 3) - 1)) ∧ (tX11_within p1 0 ((μ 263 3) - 1) μ (fun r7 μ5 => (r7 = 0 ∨ r7 = 1) → xRan μ5 → (((r7 = 0 → Q 0 μ5) ∧
  (r7 = 1 → Q 1 μ5)))))))
def tX11_isGuest (p1 : Int) (μ : xM) (Q : Int → xM → Prop) : Prop := xRan μ → (xIn p1) → 
  (((μ 260 14) = 0 → Q 0 μ) ∧
  (¬ (μ 260 14) = 0 → (xIn ((μ 263 4) - 1)) ∧ (tX11_within p1 0 ((μ 263 4) - 1) μ (fun r7 μ5 => (r7 = 0 ∨ r7 = 1) → xRan μ5 → (((r7 = 0 → Q 0 μ5) ∧
  (r7 = 1 → Q 1 μ5)))))))
def tX11_isTable (p1 : Int) (μ : xM) (Q : Int → xM → Prop) : Prop := xRan μ → (xIn p1) → 
  (((μ 260 14) = 0 → Q 0 μ) ∧
  (¬ (μ 260 14) = 0 → (xIn ((μ 263 0) - 1)) ∧ (tX11_within p1 0 ((μ 263 0) - 1) μ (fun r7 μ5 => (r7 = 0 ∨ r7 = 1) → xRan μ5 → (((r7 = 0 → Q 0 μ5) ∧
  (r7 = 1 → Q 1 μ5)))))))
def tX11_word (p1 : Int) (p2 : Int) (μ : xM) (Q : Int → xM → Prop) : Prop := xRan μ → (xIn p1) → (xIn p2) → 
  tX11_good μ (fun μ1 => xRan μ1 → (tX11_isWordThere p1 μ1 (fun r5 μ3 => (r5 = 0 ∨ r5 = 1) → xRan μ3 → (((r5 = 1 → ((p2 = 0 → (0 ≤ (7 + p1) ∧ (7 + p1) < 322) ∧ (Q (μ3 263 ((7 + p1).toNat)) μ3)) ∧
  (p2 = 1 → (0 ≤ (175 + p1) ∧ (175 + p1) < 322) ∧ (Q (μ3 263 ((175 + p1).toNat)) μ3)) ∧
  (p2 = 2 → (0 ≤ (199 + p1) ∧ (199 + p1) < 322) ∧ (Q (μ3 263 ((199 + p1).toNat)) μ3)) ∧
  (p2 = 3 → tX11_isGood p1 μ3 (fun r19 μ17 => (r19 = 0 ∨ r19 = 1) → xRan μ17 → (((r19 = 0 → Q 0 μ17) ∧
  (r19 = 1 → Q 1 μ17))))) ∧
  ((p2 < 0 ∨ 3 < p2) → tX11_no 1 μ3 (fun r25 μ23 => (xIn r25) → xRan μ23 → (Q r25 μ23))))) ∧
  (r5 = 0 → tX11_no 1 μ3 (fun r30 μ28 => (xIn r30) → xRan μ28 → (Q r30 μ28))))))))
def tX11_letter (p1 : Int) (p2 : Int) (μ : xM) (Q : Int → xM → Prop) : Prop := xRan μ → (xIn p1) → (xIn p2) → 
  tX11_good μ (fun μ1 => xRan μ1 → (tX11_isWordThere p1 μ1 (fun r5 μ3 => (r5 = 0 ∨ r5 = 1) → xRan μ3 → (((r5 = 0 → tX11_no 1 μ3 (fun r10 μ8 => (xIn r10) → xRan μ8 → (Q r10 μ8))) ∧
  (r5 = 1 → (0 ≤ (7 + p1) ∧ (7 + p1) < 322) ∧ ((xIn ((μ3 263 ((7 + p1).toNat)) - 1)) ∧ (tX11_within p2 0 ((μ3 263 ((7 + p1).toNat)) - 1) μ3 (fun r17 μ15 => (r17 = 0 ∨ r17 = 1) → xRan μ15 → (((r17 = 0 → tX11_no 1 μ15 (fun r22 μ20 => (xIn r22) → xRan μ20 → (Q r22 μ20))) ∧
  (r17 = 1 → tX11_letterAt p1 p2 μ15 (fun r26 μ24 => (xIn r26) → xRan μ24 → (Q r26 μ24))))))))))))))
def tX11_grows (p1 : Int) (p2 : Int) (μ : xM) (Q : Int → xM → Prop) : Prop := xRan μ → (xIn p1) → (xIn p2) → 
  tX11_good μ (fun μ1 => xRan μ1 → (tX11_isWordThere p1 μ1 (fun r5 μ3 => (r5 = 0 ∨ r5 = 1) → xRan μ3 → (((r5 = 0 → tX11_no 1 μ3 (fun r10 μ8 => (xIn r10) → xRan μ8 → (Q r10 μ8))) ∧
  (r5 = 1 → tX11_isWordThere p2 μ3 (fun r14 μ12 => (r14 = 0 ∨ r14 = 1) → xRan μ12 → (((r14 = 1 → tX11_isGood p1 μ12 (fun r19 μ17 => (r19 = 0 ∨ r19 = 1) → xRan μ17 → (((r19 = 0 → tX11_no 5 μ17 (fun r24 μ22 => (xIn r24) → xRan μ22 → (Q r24 μ22))) ∧
  (r19 = 1 → tX11_isGood p2 μ17 (fun r28 μ26 => (r28 = 0 ∨ r28 = 1) → xRan μ26 → (((r28 = 1 → (0 ≤ ((24 * p1) + p2) ∧ ((24 * p1) + p2) < 600) ∧ (((0 ≤ (μ26 267 (((24 * p1) + p2).toNat)) → Q (μ26 267 (((24 * p1) + p2).toNat)) μ26) ∧
  (¬ 0 ≤ (μ26 267 (((24 * p1) + p2).toNat)) → Q (-2) μ26)))) ∧
  (r28 = 0 → tX11_no 5 μ26 (fun r36 μ34 => (xIn r36) → xRan μ34 → (Q r36 μ34))))))))))) ∧
  (r14 = 0 → tX11_no 1 μ12 (fun r40 μ38 => (xIn r40) → xRan μ38 → (Q r40 μ38))))))))))))
def tX11_chain (p1 : Int) (μ : xM) (Q : Int → xM → Prop) : Prop := xRan μ → (xIn p1) → 
  tX11_good μ (fun μ1 => xRan μ1 → (tX11_isWordThere p1 μ1 (fun r5 μ3 => (r5 = 0 ∨ r5 = 1) → xRan μ3 → (((r5 = 1 → tX11_isGood p1 μ3 (fun r10 μ8 => (r10 = 0 ∨ r10 = 1) → xRan μ8 → (((r10 = 0 → tX11_no 5 μ8 (fun r15 μ13 => (xIn r15) → xRan μ13 → (Q r15 μ13))) ∧
  (r10 = 1 → (0 ≤ p1 ∧ p1 < 24) ∧ (Q (μ8 268 p1.toNat) μ8)))))) ∧
  (r5 = 0 → tX11_no 1 μ3 (fun r21 μ19 => (xIn r21) → xRan μ19 → (Q r21 μ19))))))))
def tX11_rises (p1 : Int) (μ : xM) (Q : Int → xM → Prop) : Prop := xRan μ → (xIn p1) → 
  tX11_good μ (fun μ1 => xRan μ1 → (tX11_isWordThere p1 μ1 (fun r5 μ3 => (r5 = 0 ∨ r5 = 1) → xRan μ3 → (((r5 = 1 → tX11_isGood p1 μ3 (fun r10 μ8 => (r10 = 0 ∨ r10 = 1) → xRan μ8 → (((r10 = 0 → tX11_no 5 μ8 (fun r15 μ13 => (xIn r15) → xRan μ13 → (Q r15 μ13))) ∧
  (r10 = 1 → (0 ≤ p1 ∧ p1 < 24) ∧ (Q (μ8 270 p1.toNat) μ8)))))) ∧
  (r5 = 0 → tX11_no 1 μ3 (fun r21 μ19 => (xIn r21) → xRan μ19 → (Q r21 μ19))))))))
def tX11_grundy_b30 (p1 : Int)  (μ : xM) (Q : Int → xM → Prop)  : Prop := xRan μ →
  ((p1 ≠ (-1) → tX11_isGood p1 μ (fun r13 μ11 => (r13 = 0 ∨ r13 = 1) → xRan μ11 → (((r13 = 0 → tX11_no 5 μ11 (fun r18 μ16 => (xIn r18) → xRan μ16 → (Q r18 μ16))) ∧
  (r13 = 1 → (0 ≤ p1 ∧ p1 < 25) ∧ (Q (μ11 269 p1.toNat) μ11)))))) ∧
  (p1 = (-1) → Q (μ 269 24) μ))
def tX11_grundy (p1 : Int) (μ : xM) (Q : Int → xM → Prop) : Prop := xRan μ → (xIn p1) → 
  tX11_good μ (fun μ1 => xRan μ1 → ((((μ1 260 14) = 0 → tX11_no 1 μ1 (fun r7 μ5 => (xIn r7) → xRan μ5 → (Q r7 μ5))) ∧
  (¬ (μ1 260 14) = 0 → ((p1 = (-1) → tX11_grundy_b30 p1 μ1 Q ) ∧
  (¬ p1 = (-1) → tX11_isWordThere p1 μ1 (fun r25 μ23 => (r25 = 0 ∨ r25 = 1) → xRan μ23 → (((r25 = 1 → tX11_grundy_b30 p1 μ23 Q ) ∧
  (r25 = 0 → tX11_no 1 μ23 (fun r30 μ28 => (xIn r30) → xRan μ28 → (Q r30 μ28))))))))))))
def tX11_layFar (p1 : Int) (μ : xM) (Q : xM → Prop) : Prop := xRan μ → (xIn p1) → 
  xLoop1 0 μ (fun J2 l2_1 μ2 =>
  (xIn l2_1) ∧ (((24 ≤ l2_1 → (0 ≤ p1 ∧ p1 < 24) ∧ (∀ μ7 : xM, μ7 = wi μ2 271 p1.toNat 0 → xRan μ7 → (xLoop1 0 μ7 (fun J30 l2_10 μ11 =>
  (xIn l2_10) ∧ (((24 ≤ l2_10 → Q μ11) ∧
  (¬ 24 ≤ l2_10 → xLoop1 0 μ11 (fun J38 l3_15 μ16 =>
  (xIn l3_15) ∧ ((((μ16 263 3) ≤ l3_15 → J30 (l2_10 + 1) μ16) ∧
  (¬ (μ16 263 3) ≤ l3_15 → (0 ≤ l3_15 ∧ l3_15 < 24) ∧ ((xIn l2_10) ∧ ((((μ16 271 l3_15.toNat) = l2_10 → xLoop1 0 μ16 (fun J64 l4_25 μ26 =>
  (xIn l4_25) ∧ ((((μ26 263 3) ≤ l4_25 → J38 (l3_15 + 1) μ26) ∧
  (¬ (μ26 263 3) ≤ l4_25 → (0 ≤ l4_25 ∧ l4_25 < 24) ∧ (((0 ≤ (μ26 271 l4_25.toNat) → J64 (l4_25 + 1) μ26) ∧
  (¬ 0 ≤ (μ26 271 l4_25.toNat) → (0 ≤ ((24 * l3_15) + l4_25) ∧ ((24 * l3_15) + l4_25) < 600) ∧ (((0 ≤ (μ26 267 (((24 * l3_15) + l4_25).toNat)) → (xIn (l2_10 + 1)) ∧ (∀ μ38 : xM, μ38 = wi μ26 271 l4_25.toNat (l2_10 + 1) → xRan μ38 → (J64 (l4_25 + 1) μ38))) ∧
  (¬ 0 ≤ (μ26 267 (((24 * l3_15) + l4_25).toNat)) → (0 ≤ ((24 * l4_25) + l3_15) ∧ ((24 * l4_25) + l3_15) < 600) ∧ ((((μ26 267 (((24 * l4_25) + l3_15).toNat)) < 0 → J64 (l4_25 + 1) μ26) ∧
  (¬ (μ26 267 (((24 * l4_25) + l3_15).toNat)) < 0 → (xIn (l2_10 + 1)) ∧ (∀ μ45 : xM, μ45 = wi μ26 271 l4_25.toNat (l2_10 + 1) → xRan μ45 → (J64 (l4_25 + 1) μ45)))))))))))))))) ∧
  (¬ (μ16 271 l3_15.toNat) = l2_10 → J38 (l3_15 + 1) μ16))))))))))))))) ∧
  (¬ 24 ≤ l2_1 → (0 ≤ l2_1 ∧ l2_1 < 24) ∧ (∀ μ49 : xM, μ49 = wi μ2 271 l2_1.toNat (-1) → xRan μ49 → (J2 (l2_1 + 1) μ49))))))
def tX11_pairWhy (p1 : Int) (p2 : Int) (μ : xM) (Q : Int → xM → Prop) : Prop := xRan μ → (xIn p1) → (xIn p2) → 
  tX11_isWordThere p1 μ (fun r3 μ1 => (r3 = 0 ∨ r3 = 1) → xRan μ1 → (((r3 = 0 → Q 1 μ1) ∧
  (r3 = 1 → tX11_isWordThere p2 μ1 (fun r8 μ6 => (r8 = 0 ∨ r8 = 1) → xRan μ6 → (((r8 = 1 → tX11_isGood p1 μ6 (fun r13 μ11 => (r13 = 0 ∨ r13 = 1) → xRan μ11 → (((r13 = 0 → Q 5 μ11) ∧
  (r13 = 1 → tX11_isGood p2 μ11 (fun r18 μ16 => (r18 = 0 ∨ r18 = 1) → xRan μ16 → (((r18 = 0 → Q 5 μ16) ∧
  (r18 = 1 → Q 0 μ16))))))))) ∧
  (r8 = 0 → Q 1 μ6))))))))
def tX11_ladder (p1 : Int) (p2 : Int) (μ : xM) (Q : Int → xM → Prop) : Prop := xRan μ → (xIn p1) → (xIn p2) → 
  tX11_good μ (fun μ1 => xRan μ1 → (tX11_pairWhy p1 p2 μ1 (fun r5 μ3 => (xIn r5) → xRan μ3 → (((r5 = 0 → tX11_layFar p2 μ3 (fun μ8 => xRan μ8 → ((0 ≤ p1 ∧ p1 < 24) ∧ (((0 ≤ (μ8 271 p1.toNat) → Q (μ8 271 p1.toNat) μ8) ∧
  (¬ 0 ≤ (μ8 271 p1.toNat) → Q (-2) μ8)))))) ∧
  (¬ r5 = 0 → tX11_no r5 μ3 (fun r16 μ14 => (xIn r16) → xRan μ14 → (Q r16 μ14))))))))
def tX11_rung_b18 (p1 : Int) (p2 : Int) (p3 : Int) (s0 : Int) (μ : xM) (Q : Int → xM → Prop)  : Prop := xRan μ →
  (xIn s0) ∧ (((s0 = 0 → tX11_layFar p2 μ (fun μ10 => xRan μ10 → ((0 ≤ p1 ∧ p1 < 24) ∧ (((0 ≤ (μ10 271 p1.toNat) → ((p3 ≤ (μ10 271 p1.toNat) → xLoop2 p1 0 μ10 (fun J75 l5_17 l6_18 μ19 =>
  (xIn l6_18) ∧ (((p3 ≤ l6_18 → (xIn l5_17) ∧ (Q l5_17 μ19)) ∧
  (¬ p3 ≤ l6_18 → xLoop1 0 μ19 (fun J84 l7_24 μ25 =>
  (0 ≤ l7_24 ∧ l7_24 < 24) ∧ ((0 ≤ l5_17 ∧ l5_17 < 24) ∧ ((xIn ((μ25 271 l5_17.toNat) - 1)) ∧ ((((μ25 271 l7_24.toNat) ≠ ((μ25 271 l5_17.toNat) - 1) → J84 (l7_24 + 1) μ25) ∧
  ((μ25 271 l7_24.toNat) = ((μ25 271 l5_17.toNat) - 1) → (0 ≤ ((24 * l5_17) + l7_24) ∧ ((24 * l5_17) + l7_24) < 600) ∧ (((0 ≤ (μ25 267 (((24 * l5_17) + l7_24).toNat)) → J75 l7_24 (l6_18 + 1) μ25) ∧
  (¬ 0 ≤ (μ25 267 (((24 * l5_17) + l7_24).toNat)) → (0 ≤ ((24 * l7_24) + l5_17) ∧ ((24 * l7_24) + l5_17) < 600) ∧ (((0 ≤ (μ25 267 (((24 * l7_24) + l5_17).toNat)) → J75 l7_24 (l6_18 + 1) μ25) ∧
  (¬ 0 ≤ (μ25 267 (((24 * l7_24) + l5_17).toNat)) → J84 (l7_24 + 1) μ25))))))))))))))))) ∧
  (¬ p3 ≤ (μ10 271 p1.toNat) → tX11_no 1 μ10 (fun r41 μ39 => (xIn r41) → xRan μ39 → (Q r41 μ39))))) ∧
  (¬ 0 ≤ (μ10 271 p1.toNat) → tX11_no 6 μ10 (fun r45 μ43 => (xIn r45) → xRan μ43 → (Q r45 μ43)))))))) ∧
  (¬ s0 = 0 → tX11_no s0 μ (fun r49 μ47 => (xIn r49) → xRan μ47 → (Q r49 μ47)))))
def tX11_rung (p1 : Int) (p2 : Int) (p3 : Int) (μ : xM) (Q : Int → xM → Prop) : Prop := xRan μ → (xIn p1) → (xIn p2) → (xIn p3) → 
  tX11_good μ (fun μ1 => xRan μ1 → (((0 ≤ p3 → tX11_pairWhy p1 p2 μ1 (fun r6 μ4 => (xIn r6) → xRan μ4 → (tX11_rung_b18 p1 p2 p3 r6 μ4 Q ))) ∧
  (¬ 0 ≤ p3 → tX11_rung_b18 p1 p2 p3 1 μ1 Q ))))
def tX11_layLetters  (μ : xM) (Q : xM → Prop) : Prop := xRan μ → 
  xLoop1 0 μ (fun J2 l1_1 μ2 =>
  (xIn l1_1) ∧ (((26 ≤ l1_1 → xLoop1 0 μ2 (fun J23 l1_6 μ7 =>
  (xIn l1_6) ∧ ((((μ7 263 4) ≤ l1_6 → Q μ7) ∧
  (¬ (μ7 263 4) ≤ l1_6 → (0 ≤ (295 + l1_6) ∧ (295 + l1_6) < 322) ∧ ((0 ≤ (μ7 263 ((295 + l1_6).toNat)) ∧ (μ7 263 ((295 + l1_6).toNat)) < 26) ∧ ((xIn ((μ7 273 ((μ7 263 ((295 + l1_6).toNat)).toNat)) + 1)) ∧ (∀ μ17 : xM, μ17 = wi μ7 273 ((μ7 263 ((295 + l1_6).toNat)).toNat) ((μ7 273 ((μ7 263 ((295 + l1_6).toNat)).toNat)) + 1) → xRan μ17 → (J23 (l1_6 + 1) μ17))))))))) ∧
  (¬ 26 ≤ l1_1 → (0 ≤ l1_1 ∧ l1_1 < 26) ∧ (∀ μ21 : xM, μ21 = wi μ2 273 l1_1.toNat 0 → xRan μ21 → (J2 (l1_1 + 1) μ21))))))
def tX11_addUp  (μ : xM) (Q : Int → xM → Prop) : Prop := xRan μ → 
  xLoop1 0 μ (fun J2 l1_1 μ2 =>
  (xIn l1_1) ∧ (((26 ≤ l1_1 → xLoop1 0 μ2 (fun J23 l1_6 μ7 =>
  (xIn l1_6) ∧ (((3 ≤ l1_6 → xLoop2 1 0 μ7 (fun J95 l1_11 l2_12 μ13 =>
  (xIn l2_12) ∧ (((26 ≤ l2_12 → (l1_11 = 0 ∨ l1_11 = 1) ∧ (Q l1_11 μ13)) ∧
  (¬ 26 ≤ l2_12 → (xIn l1_11) ∧ (((l1_11 = 0 → J95 0 (l2_12 + 1) μ13) ∧
  (¬ l1_11 = 0 → (0 ≤ l2_12 ∧ l2_12 < 26) ∧ ((((μ13 273 l2_12.toNat) < (μ13 272 l2_12.toNat) → J95 0 (l2_12 + 1) μ13) ∧
  (¬ (μ13 273 l2_12.toNat) < (μ13 272 l2_12.toNat) → J95 1 (l2_12 + 1) μ13))))))))))) ∧
  (¬ 3 ≤ l1_6 → (0 ≤ l1_6 ∧ l1_6 < 3) ∧ (((24 ≤ (μ7 275 l1_6.toNat) → J23 (l1_6 + 1) μ7) ∧
  (¬ 24 ≤ (μ7 275 l1_6.toNat) → xLoop1 0 μ7 (fun J41 l2_27 μ28 =>
  (0 ≤ l1_6 ∧ l1_6 < 3) ∧ ((0 ≤ (7 + (μ28 275 l1_6.toNat)) ∧ (7 + (μ28 275 l1_6.toNat)) < 322) ∧ ((xIn l2_27) ∧ ((((μ28 263 ((7 + (μ28 275 l1_6.toNat)).toNat)) ≤ l2_27 → J23 (l1_6 + 1) μ28) ∧
  (¬ (μ28 263 ((7 + (μ28 275 l1_6.toNat)).toNat)) ≤ l2_27 → tX11_letterAt (μ28 275 l1_6.toNat) l2_27 μ28 (fun r39 μ37 => (xIn r39) → xRan μ37 → ((0 ≤ r39 ∧ r39 < 26) ∧ ((xIn ((μ37 272 r39.toNat) + 1)) ∧ (∀ μ44 : xM, μ44 = wi μ37 272 r39.toNat ((μ37 272 r39.toNat) + 1) → xRan μ44 → (J41 (l2_27 + 1) μ44))))))))))))))))))) ∧
  (¬ 26 ≤ l1_1 → (0 ≤ l1_1 ∧ l1_1 < 26) ∧ (∀ μ48 : xM, μ48 = wi μ2 272 l1_1.toNat 0 → xRan μ48 → (J2 (l1_1 + 1) μ48))))))
def tX11_lettersOf  (μ : xM) (Q : Int → xM → Prop) : Prop := xRan μ → 
  xLoop2 0 0 μ (fun J4 l1_1 l2_2 μ3 =>
  (xIn l2_2) ∧ (((3 ≤ l2_2 → (xIn l1_1) ∧ (Q l1_1 μ3)) ∧
  (¬ 3 ≤ l2_2 → (0 ≤ l2_2 ∧ l2_2 < 3) ∧ (((24 ≤ (μ3 275 l2_2.toNat) → J4 (l1_1 + 0) (l2_2 + 1) μ3) ∧
  (¬ 24 ≤ (μ3 275 l2_2.toNat) → (0 ≤ (7 + (μ3 275 l2_2.toNat)) ∧ (7 + (μ3 275 l2_2.toNat)) < 322) ∧ (J4 (l1_1 + (μ3 263 ((7 + (μ3 275 l2_2.toNat)).toNat))) (l2_2 + 1) μ3))))))))
def tX11_worthOf  (μ : xM) (Q : Int → xM → Prop) : Prop := xRan μ → 
  xLoop2 0 0 μ (fun J4 l1_1 l2_2 μ3 =>
  (xIn l2_2) ∧ (((3 ≤ l2_2 → (xIn l1_1) ∧ (Q l1_1 μ3)) ∧
  (¬ 3 ≤ l2_2 → (0 ≤ l2_2 ∧ l2_2 < 3) ∧ (((24 ≤ (μ3 275 l2_2.toNat) → J4 (l1_1 + 0) (l2_2 + 1) μ3) ∧
  (¬ 24 ≤ (μ3 275 l2_2.toNat) → (0 ≤ (175 + (μ3 275 l2_2.toNat)) ∧ (175 + (μ3 275 l2_2.toNat)) < 322) ∧ (J4 (l1_1 + (μ3 263 ((175 + (μ3 275 l2_2.toNat)).toNat))) (l2_2 + 1) μ3))))))))
def tX11_wordsOf  (μ : xM) (Q : Int → xM → Prop) : Prop := xRan μ → 
  xLoop2 0 0 μ (fun J4 l1_1 l2_2 μ3 =>
  (xIn l2_2) ∧ (((3 ≤ l2_2 → (xIn l1_1) ∧ (Q l1_1 μ3)) ∧
  (¬ 3 ≤ l2_2 → (0 ≤ l2_2 ∧ l2_2 < 3) ∧ (((24 ≤ (μ3 275 l2_2.toNat) → J4 (l1_1 + 0) (l2_2 + 1) μ3) ∧
  (¬ 24 ≤ (μ3 275 l2_2.toNat) → J4 (l1_1 + 1) (l2_2 + 1) μ3)))))))
def tX11_mayStand (p1 : Int) (p2 : Int) (μ : xM) (Q : Int → xM → Prop) : Prop := xRan μ → (xIn p1) → (xIn p2) → 
  ((p1 = 24 → Q 1 μ) ∧
  (¬ p1 = 24 → (((μ 263 0) ≤ p2 → Q 0 μ) ∧
  (¬ (μ 263 0) ≤ p2 → (((μ 263 3) ≤ p1 → Q 0 μ) ∧
  (¬ (μ 263 3) ≤ p1 → tX11_isGood p1 μ (fun r8 μ6 => (r8 = 0 ∨ r8 = 1) → xRan μ6 → (((r8 = 0 → Q 0 μ6) ∧
  (r8 = 1 → Q 1 μ6))))))))))
def tX11_keepRow  (μ : xM) (Q : xM → Prop) : Prop := xRan μ → 
  xLoop1 0 μ (fun J2 l1_1 μ2 =>
  (xIn l1_1) ∧ (((3 ≤ l1_1 → Q μ2) ∧
  (¬ 3 ≤ l1_1 → (0 ≤ l1_1 ∧ l1_1 < 3) ∧ (∀ μ8 : xM, μ8 = wi μ2 274 l1_1.toNat (μ2 275 l1_1.toNat) → xRan μ8 → (J2 (l1_1 + 1) μ8))))))
def tX11_wanted (p1 : Int) (μ : xM) (Q : xM → Prop) : Prop := xRan μ → (xIn p1) → 
  tX11_addUp μ (fun r3 μ1 => (r3 = 0 ∨ r3 = 1) → xRan μ1 → (xLoop2 1 0 μ1 (fun J9 l2_5 l3_6 μ7 =>
  (xIn l3_6) ∧ (((26 ≤ l3_6 → (xIn l2_5) ∧ (((l2_5 = 0 → Q μ7) ∧
  (¬ l2_5 = 0 → (((μ7 260 33) = (-2) → tX11_lettersOf μ7 (fun r17 μ15 => (xIn r17) → xRan μ15 → ((xIn (r17 - p1)) ∧ (∀ μ20 : xM, μ20 = wi μ15 260 33 (r17 - p1) → xRan μ20 → (tX11_keepRow μ20 (fun μ23 => xRan μ23 → (Q μ23))))))) ∧
  (¬ (μ7 260 33) = (-2) → tX11_lettersOf μ7 (fun r27 μ25 => (xIn r27) → xRan μ25 → ((xIn (r27 - p1)) ∧ ((((r27 - p1) < (μ25 260 33) → tX11_lettersOf μ25 (fun r34 μ32 => (xIn r34) → xRan μ32 → ((xIn (r34 - p1)) ∧ (∀ μ37 : xM, μ37 = wi μ32 260 33 (r34 - p1) → xRan μ37 → (tX11_keepRow μ37 (fun μ40 => xRan μ40 → (Q μ40))))))) ∧
  (¬ (r27 - p1) < (μ25 260 33) → Q μ25))))))))))) ∧
  (¬ 26 ≤ l3_6 → (xIn l2_5) ∧ (((l2_5 = 0 → J9 0 (l3_6 + 1) μ7) ∧
  (¬ l2_5 = 0 → (0 ≤ l3_6 ∧ l3_6 < 26) ∧ ((((μ7 272 l3_6.toNat) < (μ7 273 l3_6.toNat) → J9 0 (l3_6 + 1) μ7) ∧
  (¬ (μ7 272 l3_6.toNat) < (μ7 273 l3_6.toNat) → J9 1 (l3_6 + 1) μ7))))))))))))
def tX11_judge_b63 (p1 : Int) (b2 : Int) (b3 : Int) (μ : xM) (Q : xM → Prop)  : Prop := xRan μ →
  (xIn b2) ∧ (((b2 < (μ 260 29) → Q μ) ∧
  (¬ b2 < (μ 260 29) → ((b2 ≠ (μ 260 29) → ∀ μ23 : xM, μ23 = wi μ 260 29 b2 → xRan μ23 → ((xIn b3) ∧ (∀ μ27 : xM, μ27 = wi μ23 260 30 b3 → xRan μ27 → (tX11_keepRow μ27 (fun μ30 => xRan μ30 → (Q μ30)))))) ∧
  (b2 = (μ 260 29) → (xIn b3) ∧ ((((μ 260 30) < b3 → ∀ μ35 : xM, μ35 = wi μ 260 29 b2 → xRan μ35 → (∀ μ38 : xM, μ38 = wi μ35 260 30 b3 → xRan μ38 → (tX11_keepRow μ38 (fun μ41 => xRan μ41 → (Q μ41))))) ∧
  (¬ (μ 260 30) < b3 → Q μ))))))))
def tX11_judge_b55 (p1 : Int) (b2 : Int) (b3 : Int) (μ : xM) (Q : xM → Prop)  : Prop := xRan μ →
  tX11_wordsOf μ (fun r47 μ45 => (xIn r47) → xRan μ45 → (∀ μ49 : xM, μ49 = wi μ45 260 32 r47 → xRan μ49 → (tX11_judge_b63 p1 b2 b3 μ49 Q )))
def tX11_judge_b27 (p1 : Int) (b2 : Int) (b3 : Int) (s1 : Int) (μ : xM) (Q : xM → Prop)  : Prop := xRan μ →
  (xIn s1) ∧ (∀ μ13 : xM, μ13 = wi μ 260 31 s1 → xRan μ13 → ((xIn b2) ∧ (((b2 ≠ p1 → tX11_judge_b63 p1 b2 b3 μ13 Q ) ∧
  (b2 = p1 → (((μ13 260 32) = (-2) → tX11_judge_b55 p1 b2 b3 μ13 Q ) ∧
  (¬ (μ13 260 32) = (-2) → tX11_wordsOf μ13 (fun r54 μ52 => (xIn r54) → xRan μ52 → ((((μ52 260 32) ≤ r54 → tX11_judge_b63 p1 b2 b3 μ52 Q ) ∧
  (¬ (μ52 260 32) ≤ r54 → tX11_judge_b55 p1 b2 b3 μ52 Q )))))))))))
def tX11_judge (p1 : Int) (μ : xM) (Q : xM → Prop) : Prop := xRan μ → (xIn p1) → 
  tX11_lettersOf μ (fun r3 μ1 => (xIn r3) → xRan μ1 → (tX11_worthOf μ1 (fun r7 μ5 => (xIn r7) → xRan μ5 → (((r7 ≤ (μ5 260 31) → tX11_judge_b27 p1 r3 r7 (μ5 260 31) μ5 Q ) ∧
  (¬ r7 ≤ (μ5 260 31) → tX11_judge_b27 p1 r3 r7 r7 μ5 Q ))))))
def tX11_plans (p1 : Int) (μ : xM) (Q : xM → Prop) : Prop := xRan μ → (p1 = 0 ∨ p1 = 1) → 
  ∀ μ1 : xM, μ1 = wi μ 260 29 (-1) → xRan μ1 → (∀ μ4 : xM, μ4 = wi μ1 260 30 0 → xRan μ4 → (∀ μ7 : xM, μ7 = wi μ4 260 31 0 → xRan μ7 → (∀ μ10 : xM, μ10 = wi μ7 260 32 (-2) → xRan μ10 → (∀ μ13 : xM, μ13 = wi μ10 260 33 (-2) → xRan μ13 → (xLoop2 0 0 μ13 (fun J31 l2_16 l3_17 μ18 =>
  (xIn l3_17) ∧ (((26 ≤ l3_17 → xLoop1 0 μ18 (fun J54 l3_22 μ23 =>
  (xIn l3_22) ∧ (((24 < l3_22 → Q μ23) ∧
  (¬ 24 < l3_22 → xLoop1 l3_22 μ23 (fun J63 l4_27 μ28 =>
  (xIn l4_27) ∧ (((24 < l4_27 → J54 (l3_22 + 1) μ28) ∧
  (¬ 24 < l4_27 → xLoop1 l4_27 μ28 (fun J74 l5_32 μ33 =>
  (xIn l5_32) ∧ (((24 < l5_32 → J63 (l4_27 + 1) μ33) ∧
  (¬ 24 < l5_32 → (xIn l3_22) ∧ (tX11_mayStand l3_22 0 μ33 (fun r40 μ38 => (r40 = 0 ∨ r40 = 1) → xRan μ38 → (((r40 = 0 → J74 (l5_32 + 1) μ38) ∧
  (r40 = 1 → (xIn l4_27) ∧ (tX11_mayStand l4_27 1 μ38 (fun r46 μ44 => (r46 = 0 ∨ r46 = 1) → xRan μ44 → (((r46 = 0 → J74 (l5_32 + 1) μ44) ∧
  (r46 = 1 → tX11_mayStand l5_32 2 μ44 (fun r51 μ49 => (r51 = 0 ∨ r51 = 1) → xRan μ49 → (((r51 = 1 → ∀ μ54 : xM, μ54 = wi μ49 275 0 l3_22 → xRan μ54 → (∀ μ57 : xM, μ57 = wi μ54 275 1 l4_27 → xRan μ57 → (∀ μ60 : xM, μ60 = wi μ57 275 2 l5_32 → xRan μ60 → (((p1 = 0 → tX11_addUp μ60 (fun r66 μ64 => (r66 = 0 ∨ r66 = 1) → xRan μ64 → (((r66 = 0 → J74 (l5_32 + 1) μ64) ∧
  (r66 = 1 → (xIn l2_16) ∧ (tX11_judge l2_16 μ64 (fun μ70 => xRan μ70 → (J74 (l5_32 + 1) μ70)))))))) ∧
  (p1 = 1 → (xIn l2_16) ∧ (tX11_wanted l2_16 μ60 (fun μ73 => xRan μ73 → (J74 (l5_32 + 1) μ73))))))))) ∧
  (r51 = 0 → J74 (l5_32 + 1) μ49))))))))))))))))))))))))))) ∧
  (¬ 26 ≤ l3_17 → (0 ≤ l3_17 ∧ l3_17 < 26) ∧ (J31 (l2_16 + (μ18 273 l3_17.toNat)) (l3_17 + 1) μ18))))))))))
def tX11_laysPlans (p1 : Int) (μ : xM) (Q : Int → xM → Prop) : Prop := xRan μ → (p1 = 0 ∨ p1 = 1) → 
  (((μ 260 14) ≠ 0 → tX11_layLetters μ (fun μ3 => xRan μ3 → (tX11_plans p1 μ3 (fun μ5 => xRan μ5 → (Q 1 μ5))))) ∧
  ((μ 260 14) = 0 → Q 0 μ))
def tX11_most  (μ : xM) (Q : Int → xM → Prop) : Prop := xRan μ → 
  tX11_good μ (fun μ1 => xRan μ1 → (tX11_laysPlans 0 μ1 (fun r5 μ3 => (r5 = 0 ∨ r5 = 1) → xRan μ3 → (((r5 = 0 → tX11_no 1 μ3 (fun r10 μ8 => (xIn r10) → xRan μ8 → (Q r10 μ8))) ∧
  (r5 = 1 → Q (μ3 260 29) μ3))))))
def tX11_worth  (μ : xM) (Q : Int → xM → Prop) : Prop := xRan μ → 
  tX11_good μ (fun μ1 => xRan μ1 → (tX11_laysPlans 0 μ1 (fun r5 μ3 => (r5 = 0 ∨ r5 = 1) → xRan μ3 → (((r5 = 0 → tX11_no 1 μ3 (fun r10 μ8 => (xIn r10) → xRan μ8 → (Q r10 μ8))) ∧
  (r5 = 1 → Q (μ3 260 30) μ3))))))
def tX11_plan (p1 : Int) (μ : xM) (Q : Int → xM → Prop) : Prop := xRan μ → (xIn p1) → 
  tX11_good μ (fun μ1 => xRan μ1 → (tX11_isTable p1 μ1 (fun r5 μ3 => (r5 = 0 ∨ r5 = 1) → xRan μ3 → (((r5 = 1 → tX11_laysPlans 0 μ3 (fun r10 μ8 => (r10 = 0 ∨ r10 = 1) → xRan μ8 → ((0 ≤ p1 ∧ p1 < 3) ∧ ((((μ8 274 p1.toNat) ≠ 24 → Q (μ8 274 p1.toNat) μ8) ∧
  ((μ8 274 p1.toNat) = 24 → Q (-2) μ8)))))) ∧
  (r5 = 0 → tX11_no 1 μ3 (fun r18 μ16 => (xIn r18) → xRan μ16 → (Q r18 μ16))))))))
def tX11_richest  (μ : xM) (Q : Int → xM → Prop) : Prop := xRan μ → 
  tX11_good μ (fun μ1 => xRan μ1 → (tX11_laysPlans 0 μ1 (fun r5 μ3 => (r5 = 0 ∨ r5 = 1) → xRan μ3 → (((r5 = 0 → tX11_no 1 μ3 (fun r10 μ8 => (xIn r10) → xRan μ8 → (Q r10 μ8))) ∧
  (r5 = 1 → Q (μ3 260 31) μ3))))))
def tX11_fewest  (μ : xM) (Q : Int → xM → Prop) : Prop := xRan μ → 
  tX11_good μ (fun μ1 => xRan μ1 → (tX11_laysPlans 0 μ1 (fun r5 μ3 => (r5 = 0 ∨ r5 = 1) → xRan μ3 → (((r5 = 0 → tX11_no 1 μ3 (fun r10 μ8 => (xIn r10) → xRan μ8 → (Q r10 μ8))) ∧
  (r5 = 1 → Q (μ3 260 32) μ3))))))
def tX11_wanted_  (μ : xM) (Q : Int → xM → Prop) : Prop := xRan μ → 
  tX11_good μ (fun μ1 => xRan μ1 → (tX11_laysPlans 1 μ1 (fun r5 μ3 => (r5 = 0 ∨ r5 = 1) → xRan μ3 → (((r5 = 0 → tX11_no 1 μ3 (fun r10 μ8 => (xIn r10) → xRan μ8 → (Q r10 μ8))) ∧
  (r5 = 1 → Q (μ3 260 33) μ3))))))
def tX11_wants (p1 : Int) (μ : xM) (Q : Int → xM → Prop) : Prop := xRan μ → (xIn p1) → 
  tX11_good μ (fun μ1 => xRan μ1 → ((((μ1 260 14) = 0 → tX11_no 1 μ1 (fun r7 μ5 => (xIn r7) → xRan μ5 → (Q r7 μ5))) ∧
  (¬ (μ1 260 14) = 0 → ((0 ≤ p1 → tX11_laysPlans 1 μ1 (fun r12 μ10 => (r12 = 0 ∨ r12 = 1) → xRan μ10 → ((((μ10 260 33) ≠ (-2) → xLoop1 0 μ10 (fun J45 l2_16 μ17 =>
  (xIn l2_16) ∧ (((3 ≤ l2_16 → tX11_addUp μ17 (fun r23 μ21 => (r23 = 0 ∨ r23 = 1) → xRan μ21 → (xLoop2 p1 0 μ21 (fun J77 l2_25 l3_26 μ27 =>
  (xIn l3_26) ∧ (((26 ≤ l3_26 → tX11_no 1 μ27 (fun r33 μ31 => (xIn r33) → xRan μ31 → (Q r33 μ31))) ∧
  (¬ 26 ≤ l3_26 → (0 ≤ l3_26 ∧ l3_26 < 26) ∧ ((xIn l2_25) ∧ ((xIn ((μ27 272 l3_26.toNat) - (μ27 273 l3_26.toNat))) ∧ (((((μ27 272 l3_26.toNat) - (μ27 273 l3_26.toNat)) ≤ l2_25 → J77 (l2_25 - ((μ27 272 l3_26.toNat) - (μ27 273 l3_26.toNat))) (l3_26 + 1) μ27) ∧
  (¬ ((μ27 272 l3_26.toNat) - (μ27 273 l3_26.toNat)) ≤ l2_25 → Q l3_26 μ27)))))))))))) ∧
  (¬ 3 ≤ l2_16 → (0 ≤ l2_16 ∧ l2_16 < 3) ∧ (∀ μ45 : xM, μ45 = wi μ17 275 l2_16.toNat (μ17 274 l2_16.toNat) → xRan μ45 → (J45 (l2_16 + 1) μ45))))))) ∧
  ((μ10 260 33) = (-2) → tX11_no 6 μ10 (fun r50 μ48 => (xIn r50) → xRan μ48 → (Q r50 μ48))))))) ∧
  (¬ 0 ≤ p1 → tX11_no 1 μ1 (fun r54 μ52 => (xIn r54) → xRan μ52 → (Q r54 μ52))))))))
def tX11_gains (p1 : Int) (μ : xM) (Q : Int → xM → Prop) : Prop := xRan μ → (xIn p1) → 
  tX11_good μ (fun μ1 => xRan μ1 → ((((μ1 260 14) ≠ 0 → tX11_within p1 0 25 μ1 (fun r7 μ5 => (r7 = 0 ∨ r7 = 1) → xRan μ5 → (((r7 = 1 → tX11_laysPlans 0 μ5 (fun r12 μ10 => (r12 = 0 ∨ r12 = 1) → xRan μ10 → ((0 ≤ p1 ∧ p1 < 26) ∧ ((xIn ((μ10 273 p1.toNat) + 1)) ∧ (∀ μ18 : xM, μ18 = wi μ10 273 p1.toNat ((μ10 273 p1.toNat) + 1) → xRan μ18 → (tX11_plans 0 μ18 (fun μ21 => xRan μ21 → ((xIn ((μ21 260 29) - (μ10 260 29))) ∧ (Q ((μ21 260 29) - (μ10 260 29)) μ21))))))))) ∧
  (r7 = 0 → tX11_no 2 μ5 (fun r27 μ25 => (xIn r27) → xRan μ25 → (Q r27 μ25))))))) ∧
  ((μ1 260 14) = 0 → tX11_no 1 μ1 (fun r31 μ29 => (xIn r31) → xRan μ29 → (Q r31 μ29))))))
def tX11_night (p1 : Int) (μ : xM) (Q : Int → xM → Prop) : Prop := xRan μ → (xIn p1) → 
  tX11_good μ (fun μ1 => xRan μ1 → ((((μ1 260 14) = 0 → tX11_isNot 1 μ1 (fun r7 μ5 => (r7 = 0 ∨ r7 = 1) → xRan μ5 → (Q r7 μ5))) ∧
  (¬ (μ1 260 14) = 0 → tX11_within p1 0 3 μ1 (fun r11 μ9 => (r11 = 0 ∨ r11 = 1) → xRan μ9 → (((r11 = 1 → tX11_begin p1 μ9 (fun μ14 => xRan μ14 → (Q 1 μ14))) ∧
  (r11 = 0 → tX11_isNot 1 μ9 (fun r18 μ16 => (r18 = 0 ∨ r18 = 1) → xRan μ16 → (Q r18 μ16))))))))))
def tX11_code  (μ : xM) (Q : Int → xM → Prop) : Prop := xRan μ → 
  (xIn (((μ 265 0) + (25 * (μ 265 1))) + (625 * (μ 265 2)))) ∧ (Q (((μ 265 0) + (25 * (μ 265 1))) + (625 * (μ 265 2))) μ)
def tX11_wordOf (p1 : Int) (p2 : Int) (μ : xM) (Q : Int → xM → Prop) : Prop := xRan μ → (xIn p1) → (xIn p2) → 
  ((p2 ≠ 0 → ((p2 ≠ 1 → (xIn (p1.tdiv 625)) ∧ (Q (p1.tdiv 625) μ)) ∧
  (p2 = 1 → (xIn (p1.tdiv 25)) ∧ ((xIn ((p1.tdiv 25).tmod 25)) ∧ (Q ((p1.tdiv 25).tmod 25) μ))))) ∧
  (p2 = 0 → (xIn (p1.tmod 25)) ∧ (Q (p1.tmod 25) μ)))
def tX11_withWord (p1 : Int) (p2 : Int) (p3 : Int) (μ : xM) (Q : Int → xM → Prop) : Prop := xRan μ → (xIn p1) → (xIn p2) → (xIn p3) → 
  ((p2 ≠ 0 → ((p2 ≠ 1 → tX11_wordOf p1 p2 μ (fun r5 μ3 => (xIn r5) → xRan μ3 → ((xIn (p1 + ((p3 - r5) * 625))) ∧ (Q (p1 + ((p3 - r5) * 625)) μ3)))) ∧
  (p2 = 1 → tX11_wordOf p1 p2 μ (fun r10 μ8 => (xIn r10) → xRan μ8 → ((xIn (p1 + ((p3 - r10) * 25))) ∧ (Q (p1 + ((p3 - r10) * 25)) μ8)))))) ∧
  (p2 = 0 → tX11_wordOf p1 p2 μ (fun r15 μ13 => (xIn r15) → xRan μ13 → ((xIn (p1 + ((p3 - r15) * 1))) ∧ (Q (p1 + ((p3 - r15) * 1)) μ13)))))
def tX11_empty  (μ : xM) (Q : Int → xM → Prop) : Prop := xRan μ → 
  Q 15624 μ
def tX11_wordAfter (p1 : Int) (p2 : Int) (p3 : Int) (p4 : Int) (μ : xM) (Q : Int → xM → Prop) : Prop := xRan μ → (xIn p1) → (xIn p2) → (xIn p3) → (xIn p4) → 
  tX11_wordOf p1 p2 μ (fun r3 μ1 => (xIn r3) → xRan μ1 → ((0 ≤ ((24 * r3) + p3) ∧ ((24 * r3) + p3) < 600) ∧ ((((μ1 267 (((24 * r3) + p3).toNat)) ≠ p4 → Q (-1) μ1) ∧
  ((μ1 267 (((24 * r3) + p3).toNat)) = p4 → tX11_withWord p1 p2 p3 μ1 (fun r10 μ8 => (xIn r10) → xRan μ8 → (Q r10 μ8)))))))
def tX11_forget  (μ : xM) (Q : xM → Prop) : Prop := xRan μ → 
  xLoop1 0 μ (fun J2 l1_1 μ2 =>
  (xIn l1_1) ∧ (((140625 ≤ l1_1 → Q μ2) ∧
  (¬ 140625 ≤ l1_1 → (0 ≤ l1_1 ∧ l1_1 < 140625) ∧ (∀ μ7 : xM, μ7 = wi μ2 276 l1_1.toNat (-1) → xRan μ7 → (J2 (l1_1 + 1) μ7))))))
def tX11_mostOf_body (F : Int → Int → xM → (Int → xM → Prop) → Prop) (p1 : Int) (p2 : Int) (μ : xM) (Q : Int → xM → Prop) : Prop := xRan μ → (xIn p1) → (xIn p2) → 
  ((p1 ≠ (μ 263 4) → (0 ≤ ((15625 * p1) + p2) ∧ ((15625 * p1) + p2) < 140625) ∧ ((((μ 276 (((15625 * p1) + p2).toNat)) < 0 → (xIn (p1 + 1)) ∧ (F (p1 + 1) p2 μ (fun r9 μ7 => (xIn r9) → xRan μ7 → (xLoop2 r9 0 μ7 (fun J49 l4_11 l5_12 μ13 =>
  (xIn l5_12) ∧ ((((μ13 263 0) ≤ l5_12 → (0 ≤ ((15625 * p1) + p2) ∧ ((15625 * p1) + p2) < 140625) ∧ ((xIn l4_11) ∧ (∀ μ20 : xM, μ20 = wi μ13 276 (((15625 * p1) + p2).toNat) l4_11 → xRan μ20 → (Q l4_11 μ20)))) ∧
  (¬ (μ13 263 0) ≤ l5_12 → xLoop2 l4_11 0 μ13 (fun J63 l4_23 l6_24 μ25 =>
  (xIn l6_24) ∧ ((((μ25 263 3) ≤ l6_24 → J49 l4_23 (l5_12 + 1) μ25) ∧
  (¬ (μ25 263 3) ≤ l6_24 → (0 ≤ (295 + p1) ∧ (295 + p1) < 322) ∧ ((xIn l5_12) ∧ (tX11_wordAfter p2 l5_12 l6_24 (μ25 263 ((295 + p1).toNat)) μ25 (fun r35 μ33 => (xIn r35) → xRan μ33 → (((0 ≤ r35 → (xIn (p1 + 1)) ∧ (F (p1 + 1) r35 μ33 (fun r41 μ39 => (xIn r41) → xRan μ39 → ((xIn (1 + r41)) ∧ ((xIn l4_23) ∧ ((((1 + r41) ≤ l4_23 → J63 l4_23 (l6_24 + 1) μ39) ∧
  (¬ (1 + r41) ≤ l4_23 → J63 (1 + r41) (l6_24 + 1) μ39)))))))) ∧
  (¬ 0 ≤ r35 → J63 l4_23 (l6_24 + 1) μ33)))))))))))))))))) ∧
  (¬ (μ 276 (((15625 * p1) + p2).toNat)) < 0 → Q (μ 276 (((15625 * p1) + p2).toNat)) μ)))) ∧
  (p1 = (μ 263 4) → Q 0 μ))
def tX11_mostOf : Nat → Int → Int → xM → (Int → xM → Prop) → Prop
  | 0, _, _, _, _ => False
  | n + 1, p1, p2, μ, Q => tX11_mostOf_body (tX11_mostOf n) p1 p2 μ Q
def tX11_seated_b132 (p1 : Int) (p2 : Int) (p3 : Int) (b4 : Int) (b5 : Int) (b6 : Int) (b7 : Int) (b8 : Int) (s0 : Int) (s1 : Int) (μ : xM) (Q : Int → xM → Prop) (J9 : Int → Int → Int → xM → Prop) (J23 : Int → Int → Int → xM → Prop) : Prop := xRan μ →
  (xIn b4) ∧ (((b4 < 0 → J23 b8 (s0 - s1) (b7 + 1) μ) ∧
  (¬ b4 < 0 → (xIn (s0 - s1)) ∧ ((xIn b5) ∧ (((b5 < (s0 - s1) → J23 b8 (s0 - s1) (b7 + 1) μ) ∧
  (¬ b5 < (s0 - s1) → J23 b4 b5 (b7 + 1) μ)))))))
def tX11_seated (p1 : Int) (p2 : Int) (p3 : Int) (μ : xM) (Q : Int → xM → Prop) : Prop := xRan μ → (xIn p1) → (xIn p2) → (xIn p3) → 
  xLoop3 (-1) 0 0 μ (fun J9 l4_1 l5_2 l6_3 μ4 =>
  (xIn l6_3) ∧ ((((μ4 263 0) ≤ l6_3 → ((p1 ≠ 3 → (xIn l4_1) ∧ (Q l4_1 μ4)) ∧
  (p1 = 3 → (xIn l4_1) ∧ (((l4_1 < 0 → Q l4_1 μ4) ∧
  (¬ l4_1 < 0 → (xIn (p2 + 1)) ∧ (tX11_mostOf 12 (p2 + 1) p3 μ4 (fun r16 μ14 => (xIn r16) → xRan μ14 → ((xIn l5_2) ∧ (((r16 ≤ l5_2 → Q l4_1 μ14) ∧
  (¬ r16 ≤ l5_2 → Q (-1) μ14)))))))))))) ∧
  (¬ (μ4 263 0) ≤ l6_3 → xLoop3 l4_1 l5_2 0 μ4 (fun J23 l4_20 l5_21 l7_22 μ23 =>
  (xIn l7_22) ∧ ((((μ23 263 3) ≤ l7_22 → J9 l4_20 l5_21 (l6_3 + 1) μ23) ∧
  (¬ (μ23 263 3) ≤ l7_22 → (0 ≤ (295 + p2) ∧ (295 + p2) < 322) ∧ ((xIn l6_3) ∧ (tX11_wordAfter p3 l6_3 l7_22 (μ23 263 ((295 + p2).toNat)) μ23 (fun r33 μ31 => (xIn r33) → xRan μ31 → (((0 ≤ r33 → tX11_wordOf p3 l6_3 μ31 (fun r38 μ36 => (xIn r38) → xRan μ36 → (((p1 ≠ 0 → ((p1 ≠ 1 → ((p1 ≠ 2 → (xIn (p2 + 1)) ∧ (tX11_mostOf 12 (p2 + 1) r33 μ36 (fun r46 μ44 => (xIn r46) → xRan μ44 → ((xIn l4_20) ∧ (((l4_20 < 0 → J23 r33 (1 + r46) (l7_22 + 1) μ44) ∧
  (¬ l4_20 < 0 → (xIn (1 + r46)) ∧ ((xIn l5_21) ∧ (((l5_21 < (1 + r46) → J23 r33 (1 + r46) (l7_22 + 1) μ44) ∧
  (¬ l5_21 < (1 + r46) → J23 l4_20 l5_21 (l7_22 + 1) μ44))))))))))) ∧
  (p1 = 2 → (0 ≤ (175 + l7_22) ∧ (175 + l7_22) < 322) ∧ (((r38 ≠ 24 → (0 ≤ (175 + r38) ∧ (175 + r38) < 322) ∧ (tX11_seated_b132 p1 p2 p3 l4_20 l5_21 l6_3 l7_22 r33 (μ36 263 ((175 + l7_22).toNat)) (μ36 263 ((175 + r38).toNat)) μ36 Q J9 J23)) ∧
  (r38 = 24 → tX11_seated_b132 p1 p2 p3 l4_20 l5_21 l6_3 l7_22 r33 (μ36 263 ((175 + l7_22).toNat)) 0 μ36 Q J9 J23)))))) ∧
  (p1 = 1 → (0 ≤ l7_22 ∧ l7_22 < 24) ∧ ((xIn l4_20) ∧ (((l4_20 < 0 → J23 r33 (μ36 268 l7_22.toNat) (l7_22 + 1) μ36) ∧
  (¬ l4_20 < 0 → (xIn l5_21) ∧ (((l5_21 < (μ36 268 l7_22.toNat) → J23 r33 (μ36 268 l7_22.toNat) (l7_22 + 1) μ36) ∧
  (¬ l5_21 < (μ36 268 l7_22.toNat) → J23 l4_20 l5_21 (l7_22 + 1) μ36)))))))))) ∧
  (p1 = 0 → (xIn l4_20) ∧ (((l4_20 < 0 → J23 r33 0 (l7_22 + 1) μ36) ∧
  (¬ l4_20 < 0 → (xIn l5_21) ∧ (((l5_21 < 0 → J23 r33 0 (l7_22 + 1) μ36) ∧
  (¬ l5_21 < 0 → J23 l4_20 l5_21 (l7_22 + 1) μ36))))))))))) ∧
  (¬ 0 ≤ r33 → J23 l4_20 l5_21 (l7_22 + 1) μ31))))))))))))))
def tX11_laysTables (p1 : Int) (μ : xM) (Q : xM → Prop) : Prop := xRan μ → (xIn p1) → 
  xLoop1 0 μ (fun J2 l2_1 μ2 =>
  (xIn l2_1) ∧ (((3 ≤ l2_1 → Q μ2) ∧
  (¬ 3 ≤ l2_1 → tX11_wordOf p1 l2_1 μ2 (fun r8 μ6 => (xIn r8) → xRan μ6 → ((0 ≤ l2_1 ∧ l2_1 < 6) ∧ (∀ μ11 : xM, μ11 = wi μ6 265 l2_1.toNat r8 → xRan μ11 → (J2 (l2_1 + 1) μ11))))))))
def tX11_come (p1 : Int) (μ : xM) (Q : Int → xM → Prop) : Prop := xRan μ → (xIn p1) → 
  tX11_good μ (fun μ1 => xRan μ1 → ((((μ1 260 14) ≠ 0 → tX11_within p1 1 8 μ1 (fun r7 μ5 => (r7 = 0 ∨ r7 = 1) → xRan μ5 → (((r7 = 1 → (((μ5 265 4) ≠ (μ5 263 4) → tX11_forget μ5 (fun μ13 => xRan μ13 → (xLoop1 0 μ13 (fun J61 l2_15 μ16 =>
  (xIn l2_15) ∧ (((p1 ≤ l2_15 → Q l2_15 μ16) ∧
  (¬ p1 ≤ l2_15 → (((μ16 263 4) ≤ (μ16 265 4) → Q l2_15 μ16) ∧
  (¬ (μ16 263 4) ≤ (μ16 265 4) → tX11_code μ16 (fun r27 μ25 => (xIn r27) → xRan μ25 → (tX11_seated (μ16 265 3) (μ16 265 4) r27 μ25 (fun r31 μ29 => (xIn r31) → xRan μ29 → (((0 ≤ r31 → tX11_laysTables r31 μ29 (fun μ34 => xRan μ34 → ((xIn ((μ34 265 4) + 1)) ∧ (∀ μ38 : xM, μ38 = wi μ34 265 4 ((μ34 265 4) + 1) → xRan μ38 → (J61 (l2_15 + 1) μ38))))) ∧
  (¬ 0 ≤ r31 → ∀ μ43 : xM, μ43 = wi μ29 265 5 (xOr (μ29 265 5) (xShl 1 (μ29 265 4))) → xRan μ43 → ((xIn ((μ43 265 4) + 1)) ∧ (∀ μ48 : xM, μ48 = wi μ43 265 4 ((μ43 265 4) + 1) → xRan μ48 → (J61 (l2_15 + 1) μ48)))))))))))))))))) ∧
  ((μ5 265 4) = (μ5 263 4) → tX11_no 6 μ5 (fun r53 μ51 => (xIn r53) → xRan μ51 → (Q r53 μ51))))) ∧
  (r7 = 0 → tX11_no 2 μ5 (fun r57 μ55 => (xIn r57) → xRan μ55 → (Q r57 μ55))))))) ∧
  ((μ1 260 14) = 0 → tX11_no 1 μ1 (fun r61 μ59 => (xIn r61) → xRan μ59 → (Q r61 μ59))))))
def tX11_seat (p1 : Int) (p2 : Int) (μ : xM) (Q : Int → xM → Prop) : Prop := xRan μ → (xIn p1) → (xIn p2) → 
  tX11_good μ (fun μ1 => xRan μ1 → (tX11_isTable p1 μ1 (fun r5 μ3 => (r5 = 0 ∨ r5 = 1) → xRan μ3 → (((r5 = 0 → tX11_isNot 1 μ3 (fun r10 μ8 => (r10 = 0 ∨ r10 = 1) → xRan μ8 → (Q r10 μ8))) ∧
  (r5 = 1 → tX11_isWordThere p2 μ3 (fun r14 μ12 => (r14 = 0 ∨ r14 = 1) → xRan μ12 → (((r14 = 1 → (((μ12 265 4) ≠ (μ12 263 4) → tX11_code μ12 (fun r22 μ20 => (xIn r22) → xRan μ20 → ((0 ≤ (295 + (μ20 265 4)) ∧ (295 + (μ20 265 4)) < 322) ∧ (tX11_wordAfter r22 p1 p2 (μ20 263 ((295 + (μ20 265 4)).toNat)) μ20 (fun r29 μ27 => (xIn r29) → xRan μ27 → (((0 ≤ r29 → tX11_laysTables r29 μ27 (fun μ32 => xRan μ32 → ((xIn ((μ32 265 4) + 1)) ∧ (∀ μ36 : xM, μ36 = wi μ32 265 4 ((μ32 265 4) + 1) → xRan μ36 → (Q 1 μ36))))) ∧
  (¬ 0 ≤ r29 → tX11_isNot 5 μ27 (fun r41 μ39 => (r41 = 0 ∨ r41 = 1) → xRan μ39 → (Q r41 μ39)))))))))) ∧
  ((μ12 265 4) = (μ12 263 4) → tX11_isNot 6 μ12 (fun r45 μ43 => (r45 = 0 ∨ r45 = 1) → xRan μ43 → (Q r45 μ43))))) ∧
  (r14 = 0 → tX11_isNot 1 μ12 (fun r49 μ47 => (r49 = 0 ∨ r49 = 1) → xRan μ47 → (Q r49 μ47))))))))))))
def tX11_stand  (μ : xM) (Q : Int → xM → Prop) : Prop := xRan μ → 
  tX11_good μ (fun μ1 => xRan μ1 → ((((μ1 260 14) ≠ 0 → (((μ1 265 4) ≠ (μ1 263 4) → ∀ μ10 : xM, μ10 = wi μ1 265 5 (xOr (μ1 265 5) (xShl 1 (μ1 265 4))) → xRan μ10 → ((xIn ((μ10 265 4) + 1)) ∧ (∀ μ15 : xM, μ15 = wi μ10 265 4 ((μ10 265 4) + 1) → xRan μ15 → (Q 1 μ15)))) ∧
  ((μ1 265 4) = (μ1 263 4) → tX11_isNot 6 μ1 (fun r20 μ18 => (r20 = 0 ∨ r20 = 1) → xRan μ18 → (Q r20 μ18))))) ∧
  ((μ1 260 14) = 0 → tX11_isNot 1 μ1 (fun r24 μ22 => (r24 = 0 ∨ r24 = 1) → xRan μ22 → (Q r24 μ22))))))
def tX11_can  (μ : xM) (Q : Int → xM → Prop) : Prop := xRan μ → 
  tX11_good μ (fun μ1 => xRan μ1 → ((((μ1 260 14) ≠ 0 → (((μ1 265 4) ≠ (μ1 263 4) → xLoop2 0 0 μ1 (fun J43 l1_8 l2_9 μ10 =>
  (xIn l2_9) ∧ ((((μ10 263 0) ≤ l2_9 → (xIn l1_8) ∧ (Q l1_8 μ10)) ∧
  (¬ (μ10 263 0) ≤ l2_9 → xLoop2 l1_8 0 μ10 (fun J55 l1_16 l3_17 μ18 =>
  (xIn l3_17) ∧ ((((μ18 263 3) ≤ l3_17 → J43 l1_16 (l2_9 + 1) μ18) ∧
  (¬ (μ18 263 3) ≤ l3_17 → tX11_code μ18 (fun r25 μ23 => (xIn r25) → xRan μ23 → ((0 ≤ (295 + (μ23 265 4)) ∧ (295 + (μ23 265 4)) < 322) ∧ ((xIn l2_9) ∧ (tX11_wordAfter r25 l2_9 l3_17 (μ23 263 ((295 + (μ23 265 4)).toNat)) μ23 (fun r33 μ31 => (xIn r33) → xRan μ31 → (((0 ≤ r33 → J55 (l1_16 + 1) (l3_17 + 1) μ31) ∧
  (¬ 0 ≤ r33 → J55 (l1_16 + 0) (l3_17 + 1) μ31))))))))))))))))) ∧
  ((μ1 265 4) = (μ1 263 4) → tX11_no 6 μ1 (fun r38 μ36 => (xIn r38) → xRan μ36 → (Q r38 μ36))))) ∧
  ((μ1 260 14) = 0 → tX11_no 1 μ1 (fun r42 μ40 => (xIn r42) → xRan μ40 → (Q r42 μ40))))))
def tX11_table (p1 : Int) (μ : xM) (Q : Int → xM → Prop) : Prop := xRan μ → (xIn p1) → 
  tX11_good μ (fun μ1 => xRan μ1 → (tX11_isTable p1 μ1 (fun r5 μ3 => (r5 = 0 ∨ r5 = 1) → xRan μ3 → (((r5 = 0 → tX11_no 1 μ3 (fun r10 μ8 => (xIn r10) → xRan μ8 → (Q r10 μ8))) ∧
  (r5 = 1 → (0 ≤ p1 ∧ p1 < 6) ∧ ((((μ3 265 p1.toNat) ≠ 24 → Q (μ3 265 p1.toNat) μ3) ∧
  ((μ3 265 p1.toNat) = 24 → Q (-2) μ3)))))))))
def tX11_standing  (μ : xM) (Q : Int → xM → Prop) : Prop := xRan μ → 
  tX11_good μ (fun μ1 => xRan μ1 → ((((μ1 260 14) = 0 → tX11_no 1 μ1 (fun r7 μ5 => (xIn r7) → xRan μ5 → (Q r7 μ5))) ∧
  (¬ (μ1 260 14) = 0 → Q (μ1 265 5) μ1))))
def tX11_able  (μ : xM) (Q : Int → xM → Prop) : Prop := xRan μ → 
  tX11_good μ (fun μ1 => xRan μ1 → ((((μ1 260 14) ≠ 0 → tX11_forget μ1 (fun μ5 => xRan μ5 → (tX11_empty μ5 (fun r9 μ7 => (xIn r9) → xRan μ7 → (tX11_mostOf 12 0 r9 μ7 (fun r13 μ11 => (xIn r13) → xRan μ11 → (Q r13 μ11))))))) ∧
  ((μ1 260 14) = 0 → tX11_no 1 μ1 (fun r17 μ15 => (xIn r17) → xRan μ15 → (Q r17 μ15))))))
def tX11_sits (p1 : Int) (μ : xM) (Q : Int → xM → Prop) : Prop := xRan μ → (xIn p1) → 
  tX11_good μ (fun μ1 => xRan μ1 → ((((μ1 260 14) = 0 → tX11_no 1 μ1 (fun r7 μ5 => (xIn r7) → xRan μ5 → (Q r7 μ5))) ∧
  (¬ (μ1 260 14) = 0 → tX11_within p1 0 3 μ1 (fun r11 μ9 => (r11 = 0 ∨ r11 = 1) → xRan μ9 → (((r11 = 1 → tX11_forget μ9 (fun μ14 => xRan μ14 → (tX11_empty μ14 (fun r18 μ16 => (xIn r18) → xRan μ16 → (xLoop3 r18 0 0 μ16 (fun J39 l2_20 l3_21 l4_22 μ23 =>
  (xIn l4_22) ∧ ((((μ23 263 4) ≤ l4_22 → (xIn l3_21) ∧ (Q l3_21 μ23)) ∧
  (¬ (μ23 263 4) ≤ l4_22 → (xIn l2_20) ∧ (tX11_seated p1 l4_22 l2_20 μ23 (fun r32 μ30 => (xIn r32) → xRan μ30 → (((0 ≤ r32 → ((0 ≤ r32 → J39 r32 (l3_21 + 1) (l4_22 + 1) μ30) ∧
  (¬ 0 ≤ r32 → J39 l2_20 (l3_21 + 1) (l4_22 + 1) μ30))) ∧
  (¬ 0 ≤ r32 → ((0 ≤ r32 → J39 r32 (l3_21 + 0) (l4_22 + 1) μ30) ∧
  (¬ 0 ≤ r32 → J39 l2_20 (l3_21 + 0) (l4_22 + 1) μ30)))))))))))))))) ∧
  (r11 = 0 → tX11_no 1 μ9 (fun r39 μ37 => (xIn r39) → xRan μ37 → (Q r39 μ37))))))))))
def tX11_lettersAt (p1 : Int) (μ : xM) (Q : Int → xM → Prop) : Prop := xRan μ → (xIn p1) → 
  xLoop2 0 0 μ (fun J4 l2_1 l3_2 μ3 =>
  (xIn l3_2) ∧ (((3 ≤ l3_2 → (xIn l2_1) ∧ (Q l2_1 μ3)) ∧
  (¬ 3 ≤ l3_2 → tX11_wordOf p1 l3_2 μ3 (fun r10 μ8 => (xIn r10) → xRan μ8 → (((r10 ≠ 24 → tX11_wordOf p1 l3_2 μ8 (fun r15 μ13 => (xIn r15) → xRan μ13 → ((0 ≤ (7 + r15) ∧ (7 + r15) < 322) ∧ (J4 (l2_1 + (μ13 263 ((7 + r15).toNat))) (l3_2 + 1) μ13)))) ∧
  (r10 = 24 → J4 (l2_1 + 0) (l3_2 + 1) μ8))))))))
def tX11_areThere (p1 : Int) (p2 : Int) (μ : xM) (Q : Int → xM → Prop) : Prop := xRan μ → (xIn p1) → (xIn p2) → 
  xLoop1 0 μ (fun J2 l3_1 μ2 =>
  (xIn l3_1) ∧ (((26 ≤ l3_1 → xLoop1 0 μ2 (fun J23 l3_6 μ7 =>
  (xIn l3_6) ∧ (((p2 ≤ l3_6 → xLoop1 0 μ7 (fun J55 l3_11 μ12 =>
  (xIn l3_11) ∧ (((3 ≤ l3_11 → xLoop2 1 0 μ12 (fun J126 l3_16 l4_17 μ18 =>
  (xIn l4_17) ∧ (((26 ≤ l4_17 → (l3_16 = 0 ∨ l3_16 = 1) ∧ (Q l3_16 μ18)) ∧
  (¬ 26 ≤ l4_17 → (xIn l3_16) ∧ (((l3_16 = 0 → J126 0 (l4_17 + 1) μ18) ∧
  (¬ l3_16 = 0 → (0 ≤ l4_17 ∧ l4_17 < 26) ∧ ((((μ18 273 l4_17.toNat) < 0 → J126 0 (l4_17 + 1) μ18) ∧
  (¬ (μ18 273 l4_17.toNat) < 0 → J126 1 (l4_17 + 1) μ18))))))))))) ∧
  (¬ 3 ≤ l3_11 → tX11_wordOf p1 l3_11 μ12 (fun r30 μ28 => (xIn r30) → xRan μ28 → (xLoop1 0 μ28 (fun J70 l5_32 μ33 =>
  ((r30 = 24 → J55 (l3_11 + 1) μ33) ∧
  (¬ r30 = 24 → (0 ≤ (7 + r30) ∧ (7 + r30) < 322) ∧ ((xIn l5_32) ∧ ((((μ33 263 ((7 + r30).toNat)) ≤ l5_32 → J55 (l3_11 + 1) μ33) ∧
  (¬ (μ33 263 ((7 + r30).toNat)) ≤ l5_32 → tX11_letterAt r30 l5_32 μ33 (fun r42 μ40 => (xIn r42) → xRan μ40 → ((0 ≤ r42 ∧ r42 < 26) ∧ ((xIn ((μ40 273 r42.toNat) - 1)) ∧ (∀ μ47 : xM, μ47 = wi μ40 273 r42.toNat ((μ40 273 r42.toNat) - 1) → xRan μ47 → (J70 (l5_32 + 1) μ47))))))))))))))))))) ∧
  (¬ p2 ≤ l3_6 → (0 ≤ (295 + l3_6) ∧ (295 + l3_6) < 322) ∧ ((0 ≤ (μ7 263 ((295 + l3_6).toNat)) ∧ (μ7 263 ((295 + l3_6).toNat)) < 26) ∧ ((xIn ((μ7 273 ((μ7 263 ((295 + l3_6).toNat)).toNat)) + 1)) ∧ (∀ μ55 : xM, μ55 = wi μ7 273 ((μ7 263 ((295 + l3_6).toNat)).toNat) ((μ7 273 ((μ7 263 ((295 + l3_6).toNat)).toNat)) + 1) → xRan μ55 → (J23 (l3_6 + 1) μ55))))))))) ∧
  (¬ 26 ≤ l3_1 → (0 ≤ l3_1 ∧ l3_1 < 26) ∧ (∀ μ59 : xM, μ59 = wi μ2 273 l3_1.toNat 0 → xRan μ59 → (J2 (l3_1 + 1) μ59))))))
def tX11_walk_b245 (p1 : Int) (p2 : Int) (p3 : Int) (p4 : Int) (b5 : Int) (b6 : Int) (b7 : Int) (b8 : Int) (b9 : Int) (b10 : Int) (b13 : Int) (μ : xM) (Q : Int → xM → Prop) (J45 : Int → Int → xM → Prop) (J64 : Int → Int → xM → Prop) (J87 : Int → Int → xM → Prop) : Prop := xRan μ →
  (0 ≤ b7 ∧ b7 < 15625) ∧ ((0 ≤ b13 ∧ b13 < 15625) ∧ ((xIn ((μ 278 b7.toNat) + 1)) ∧ (∀ μ66 : xM, μ66 = wi μ 278 b13.toNat ((μ 278 b7.toNat) + 1) → xRan μ66 → ((0 ≤ b5 ∧ b5 < 15625) ∧ ((xIn b13) ∧ (∀ μ71 : xM, μ71 = wi μ66 277 b5.toNat b13 → xRan μ71 → (J87 (b5 + 1) (b10 + 1) μ71)))))))
def tX11_walk_b193 (p1 : Int) (p2 : Int) (p3 : Int) (p4 : Int) (b5 : Int) (b6 : Int) (b7 : Int) (b8 : Int) (b9 : Int) (b10 : Int) (b11 : Int) (μ : xM) (Q : Int → xM → Prop) (J45 : Int → Int → xM → Prop) (J64 : Int → Int → xM → Prop) (J87 : Int → Int → xM → Prop) : Prop := xRan μ →
  (xIn b7) ∧ ((xIn b8) ∧ ((xIn b10) ∧ (tX11_withWord b7 b8 b10 μ (fun r49 μ47 => (xIn r49) → xRan μ47 → ((0 ≤ r49 ∧ r49 < 15625) ∧ (((0 ≤ (μ47 278 r49.toNat) → J87 b5 (b10 + 1) μ47) ∧
  (¬ 0 ≤ (μ47 278 r49.toNat) → tX11_lettersAt r49 μ47 (fun r56 μ54 => (xIn r56) → xRan μ54 → ((xIn (p3 - r56)) ∧ (((p4 < (p3 - r56) → J87 b5 (b10 + 1) μ54) ∧
  (¬ p4 < (p3 - r56) → (xIn b11) ∧ (((b11 = 0 → tX11_walk_b245 p1 p2 p3 p4 b5 b6 b7 b8 b9 b10 r49 μ54 Q J45 J64 J87) ∧
  (¬ b11 = 0 → tX11_areThere r49 p3 μ54 (fun r76 μ74 => (r76 = 0 ∨ r76 = 1) → xRan μ74 → (((r76 = 1 → tX11_walk_b245 p1 p2 p3 p4 b5 b6 b7 b8 b9 b10 r49 μ74 Q J45 J64 J87) ∧
  (r76 = 0 → J87 b5 (b10 + 1) μ74))))))))))))))))))))
def tX11_walk_b178 (p1 : Int) (p2 : Int) (p3 : Int) (p4 : Int) (b5 : Int) (b6 : Int) (b7 : Int) (b8 : Int) (b9 : Int) (b10 : Int) (b11 : Int) (s0 : Int) (μ : xM) (Q : Int → xM → Prop) (J45 : Int → Int → xM → Prop) (J64 : Int → Int → xM → Prop) (J87 : Int → Int → xM → Prop) : Prop := xRan μ →
  (xIn b11) ∧ (((b11 ≠ 0 → tX11_walk_b193 p1 p2 p3 p4 b5 b6 b7 b8 b9 b10 b11 μ Q J45 J64 J87) ∧
  (b11 = 0 → (xIn s0) ∧ (((s0 ≠ 0 → tX11_walk_b193 p1 p2 p3 p4 b5 b6 b7 b8 b9 b10 b11 μ Q J45 J64 J87) ∧
  (s0 = 0 → J87 b5 (b10 + 1) μ))))))
def tX11_walk_b177 (p1 : Int) (p2 : Int) (p3 : Int) (p4 : Int) (b5 : Int) (b6 : Int) (b7 : Int) (b8 : Int) (b9 : Int) (b10 : Int) (b11 : Int) (μ : xM) (Q : Int → xM → Prop) (J45 : Int → Int → xM → Prop) (J64 : Int → Int → xM → Prop) (J87 : Int → Int → xM → Prop) : Prop := xRan μ →
  tX11_walk_b178 p1 p2 p3 p4 b5 b6 b7 b8 b9 b10 b11 0 μ Q J45 J64 J87
def tX11_walk_b157 (p1 : Int) (p2 : Int) (p3 : Int) (p4 : Int) (b5 : Int) (b6 : Int) (b7 : Int) (b8 : Int) (b9 : Int) (b10 : Int) (b11 : Int) (μ : xM) (Q : Int → xM → Prop) (J45 : Int → Int → xM → Prop) (J64 : Int → Int → xM → Prop) (J87 : Int → Int → xM → Prop) : Prop := xRan μ →
  (0 ≤ ((24 * b10) + b9) ∧ ((24 * b10) + b9) < 600) ∧ ((((μ 267 (((24 * b10) + b9).toNat)) < 0 → tX11_walk_b177 p1 p2 p3 p4 b5 b6 b7 b8 b9 b10 b11 μ Q J45 J64 J87) ∧
  (¬ (μ 267 (((24 * b10) + b9).toNat)) < 0 → tX11_walk_b178 p1 p2 p3 p4 b5 b6 b7 b8 b9 b10 b11 1 μ Q J45 J64 J87)))
def tX11_walk_b126 (p1 : Int) (p2 : Int) (p3 : Int) (p4 : Int) (b5 : Int) (b6 : Int) (b7 : Int) (b8 : Int) (b9 : Int) (b10 : Int) (s0 : Int) (μ : xM) (Q : Int → xM → Prop) (J45 : Int → Int → xM → Prop) (J64 : Int → Int → xM → Prop) (J87 : Int → Int → xM → Prop) : Prop := xRan μ →
  ((p2 = 0 → tX11_walk_b177 p1 p2 p3 p4 b5 b6 b7 b8 b9 b10 s0 μ Q J45 J64 J87) ∧
  (p2 = 1 → (xIn b9) ∧ (((b9 = 24 → tX11_walk_b177 p1 p2 p3 p4 b5 b6 b7 b8 b9 b10 s0 μ Q J45 J64 J87) ∧
  (¬ b9 = 24 → (xIn b10) ∧ (((b10 = 24 → tX11_walk_b157 p1 p2 p3 p4 b5 b6 b7 b8 b9 b10 s0 μ Q J45 J64 J87) ∧
  (¬ b10 = 24 → (((μ 263 3) ≤ b10 → tX11_walk_b177 p1 p2 p3 p4 b5 b6 b7 b8 b9 b10 s0 μ Q J45 J64 J87) ∧
  (¬ (μ 263 3) ≤ b10 → tX11_walk_b157 p1 p2 p3 p4 b5 b6 b7 b8 b9 b10 s0 μ Q J45 J64 J87))))))))))
def tX11_walk_b125 (p1 : Int) (p2 : Int) (p3 : Int) (p4 : Int) (b5 : Int) (b6 : Int) (b7 : Int) (b8 : Int) (b9 : Int) (b10 : Int) (μ : xM) (Q : Int → xM → Prop) (J45 : Int → Int → xM → Prop) (J64 : Int → Int → xM → Prop) (J87 : Int → Int → xM → Prop) : Prop := xRan μ →
  tX11_walk_b126 p1 p2 p3 p4 b5 b6 b7 b8 b9 b10 0 μ Q J45 J64 J87
def tX11_walk (p1 : Int) (p2 : Int) (p3 : Int) (p4 : Int) (μ : xM) (Q : Int → xM → Prop) : Prop := xRan μ → (xIn p1) → (p2 = 0 ∨ p2 = 1) → (xIn p3) → (xIn p4) → 
  xLoop1 0 μ (fun J3 l5_1 μ2 =>
  (xIn l5_1) ∧ (((15625 ≤ l5_1 → (0 ≤ p1 ∧ p1 < 15625) ∧ (∀ μ7 : xM, μ7 = wi μ2 278 p1.toNat 0 → xRan μ7 → (∀ μ10 : xM, μ10 = wi μ7 277 0 p1 → xRan μ10 → (xLoop2 1 0 μ10 (fun J45 l5_13 l6_14 μ15 =>
  (xIn l6_14) ∧ ((xIn l5_13) ∧ (((l5_13 ≤ l6_14 → Q l5_13 μ15) ∧
  (¬ l5_13 ≤ l6_14 → (0 ≤ l6_14 ∧ l6_14 < 15625) ∧ (xLoop2 l5_13 0 μ15 (fun J64 l5_22 l8_23 μ24 =>
  (xIn l8_23) ∧ ((((μ24 263 0) ≤ l8_23 → J45 l5_22 (l6_14 + 1) μ24) ∧
  (¬ (μ24 263 0) ≤ l8_23 → tX11_wordOf (μ15 277 l6_14.toNat) l8_23 μ24 (fun r31 μ29 => (xIn r31) → xRan μ29 → (xLoop2 l5_22 0 μ29 (fun J87 l5_33 l10_34 μ35 =>
  (xIn l10_34) ∧ (((24 < l10_34 → J64 l5_33 (l8_23 + 1) μ35) ∧
  (¬ 24 < l10_34 → (((μ35 263 3) ≤ l10_34 → tX11_walk_b125 p1 p2 p3 p4 l5_33 l6_14 (μ15 277 l6_14.toNat) l8_23 r31 l10_34 μ35 Q J45 J64 J87) ∧
  (¬ (μ35 263 3) ≤ l10_34 → (0 ≤ ((24 * r31) + l10_34) ∧ ((24 * r31) + l10_34) < 600) ∧ ((((μ35 267 (((24 * r31) + l10_34).toNat)) < 0 → tX11_walk_b125 p1 p2 p3 p4 l5_33 l6_14 (μ15 277 l6_14.toNat) l8_23 r31 l10_34 μ35 Q J45 J64 J87) ∧
  (¬ (μ35 267 (((24 * r31) + l10_34).toNat)) < 0 → tX11_walk_b126 p1 p2 p3 p4 l5_33 l6_14 (μ15 277 l6_14.toNat) l8_23 r31 l10_34 1 μ35 Q J45 J64 J87))))))))))))))))))))))))) ∧
  (¬ 15625 ≤ l5_1 → (0 ≤ l5_1 ∧ l5_1 < 15625) ∧ (∀ μ94 : xM, μ94 = wi μ2 278 l5_1.toNat (-1) → xRan μ94 → (J3 (l5_1 + 1) μ94))))))
def tX11_ever  (μ : xM) (Q : Int → xM → Prop) : Prop := xRan μ → 
  tX11_good μ (fun μ1 => xRan μ1 → ((((μ1 260 14) ≠ 0 → tX11_empty μ1 (fun r7 μ5 => (xIn r7) → xRan μ5 → (tX11_walk r7 0 (μ5 263 4) 8 μ5 (fun r12 μ10 => (xIn r12) → xRan μ10 → (xLoop2 0 0 μ10 (fun J38 l2_14 l3_15 μ16 =>
  (xIn l3_15) ∧ (((r12 ≤ l3_15 → (xIn l2_14) ∧ (Q l2_14 μ16)) ∧
  (¬ r12 ≤ l3_15 → (0 ≤ l3_15 ∧ l3_15 < 15625) ∧ (tX11_lettersAt (μ16 277 l3_15.toNat) μ16 (fun r25 μ23 => (xIn r25) → xRan μ23 → ((xIn l2_14) ∧ (((r25 ≤ l2_14 → J38 l2_14 (l3_15 + 1) μ23) ∧
  (¬ r25 ≤ l2_14 → tX11_lettersAt (μ23 277 l3_15.toNat) μ23 (fun r32 μ30 => (xIn r32) → xRan μ30 → (J38 r32 (l3_15 + 1) μ30))))))))))))))))) ∧
  ((μ1 260 14) = 0 → tX11_no 1 μ1 (fun r36 μ34 => (xIn r36) → xRan μ34 → (Q r36 μ34))))))
def tX11_mayBe (p1 : Int) (p2 : Int) (μ : xM) (Q : Int → xM → Prop) : Prop := xRan μ → (xIn p1) → (xIn p2) → 
  ((p2 = (-1) → Q 1 μ) ∧
  (¬ p2 = (-1) → tX11_isTable p1 μ (fun r4 μ2 => (r4 = 0 ∨ r4 = 1) → xRan μ2 → (((r4 = 0 → Q 0 μ2) ∧
  (r4 = 1 → tX11_isWordThere p2 μ2 (fun r9 μ7 => (r9 = 0 ∨ r9 = 1) → xRan μ7 → (((r9 = 0 → Q 0 μ7) ∧
  (r9 = 1 → Q 1 μ7))))))))))
def tX11_isGoodOrNone (p1 : Int) (μ : xM) (Q : Int → xM → Prop) : Prop := xRan μ → (xIn p1) → 
  ((p1 = (-1) → Q 1 μ) ∧
  (¬ p1 = (-1) → tX11_isGood p1 μ (fun r4 μ2 => (r4 = 0 ∨ r4 = 1) → xRan μ2 → (((r4 = 0 → Q 0 μ2) ∧
  (r4 = 1 → Q 1 μ2))))))
def tX11_steps_b131 (p1 : Int) (p2 : Int) (p3 : Int) (p4 : Int) (s0 : Int) (s1 : Int) (s2 : Int) (μ : xM) (Q : Int → xM → Prop)  : Prop := xRan μ →
  tX11_code μ (fun r65 μ63 => (xIn r65) → xRan μ63 → (tX11_walk r65 1 (μ63 265 4) p4 μ63 (fun r70 μ68 => (xIn r70) → xRan μ68 → ((0 ≤ (s0 + (s1 * s2)) ∧ (s0 + (s1 * s2)) < 15625) ∧ (((0 ≤ (μ68 278 ((s0 + (s1 * s2)).toNat)) → Q (μ68 278 ((s0 + (s1 * s2)).toNat)) μ68) ∧
  (¬ 0 ≤ (μ68 278 ((s0 + (s1 * s2)).toNat)) → Q (-2) μ68)))))))
def tX11_steps_b115 (p1 : Int) (p2 : Int) (p3 : Int) (p4 : Int) (s0 : Int) (s1 : Int) (s2 : Int) (μ : xM) (Q : Int → xM → Prop)  : Prop := xRan μ →
  ((p3 ≠ (-1) → tX11_steps_b131 p1 p2 p3 p4 (s0 + (s1 * s2)) 625 p3 μ Q ) ∧
  (p3 = (-1) → tX11_steps_b131 p1 p2 p3 p4 (s0 + (s1 * s2)) 625 24 μ Q ))
def tX11_steps_b102 (p1 : Int) (p2 : Int) (p3 : Int) (p4 : Int) (s0 : Int) (μ : xM) (Q : Int → xM → Prop)  : Prop := xRan μ →
  ((p2 ≠ (-1) → tX11_steps_b115 p1 p2 p3 p4 s0 25 p2 μ Q ) ∧
  (p2 = (-1) → tX11_steps_b115 p1 p2 p3 p4 s0 25 24 μ Q ))
def tX11_steps (p1 : Int) (p2 : Int) (p3 : Int) (p4 : Int) (μ : xM) (Q : Int → xM → Prop) : Prop := xRan μ → (xIn p1) → (xIn p2) → (xIn p3) → (xIn p4) → 
  tX11_good μ (fun μ1 => xRan μ1 → ((((μ1 260 14) = 0 → tX11_no 1 μ1 (fun r7 μ5 => (xIn r7) → xRan μ5 → (Q r7 μ5))) ∧
  (¬ (μ1 260 14) = 0 → tX11_mayBe 0 p1 μ1 (fun r11 μ9 => (r11 = 0 ∨ r11 = 1) → xRan μ9 → (((r11 = 0 → tX11_no 1 μ9 (fun r16 μ14 => (xIn r16) → xRan μ14 → (Q r16 μ14))) ∧
  (r11 = 1 → tX11_mayBe 1 p2 μ9 (fun r20 μ18 => (r20 = 0 ∨ r20 = 1) → xRan μ18 → (((r20 = 0 → tX11_no 1 μ18 (fun r25 μ23 => (xIn r25) → xRan μ23 → (Q r25 μ23))) ∧
  (r20 = 1 → tX11_mayBe 2 p3 μ18 (fun r29 μ27 => (r29 = 0 ∨ r29 = 1) → xRan μ27 → (((r29 = 1 → tX11_within p4 0 8 μ27 (fun r34 μ32 => (r34 = 0 ∨ r34 = 1) → xRan μ32 → (((r34 = 1 → tX11_isGoodOrNone p1 μ32 (fun r39 μ37 => (r39 = 0 ∨ r39 = 1) → xRan μ37 → (((r39 = 0 → tX11_no 5 μ37 (fun r44 μ42 => (xIn r44) → xRan μ42 → (Q r44 μ42))) ∧
  (r39 = 1 → tX11_isGoodOrNone p2 μ37 (fun r48 μ46 => (r48 = 0 ∨ r48 = 1) → xRan μ46 → (((r48 = 0 → tX11_no 5 μ46 (fun r53 μ51 => (xIn r53) → xRan μ51 → (Q r53 μ51))) ∧
  (r48 = 1 → tX11_isGoodOrNone p3 μ46 (fun r57 μ55 => (r57 = 0 ∨ r57 = 1) → xRan μ55 → (((r57 = 1 → ((p1 ≠ (-1) → tX11_steps_b102 p1 p2 p3 p4 p1 μ55 Q ) ∧
  (p1 = (-1) → tX11_steps_b102 p1 p2 p3 p4 24 μ55 Q ))) ∧
  (r57 = 0 → tX11_no 5 μ55 (fun r78 μ76 => (xIn r78) → xRan μ76 → (Q r78 μ76))))))))))))))) ∧
  (r34 = 0 → tX11_no 2 μ32 (fun r82 μ80 => (xIn r82) → xRan μ80 → (Q r82 μ80))))))) ∧
  (r29 = 0 → tX11_no 1 μ27 (fun r86 μ84 => (xIn r86) → xRan μ84 → (Q r86 μ84))))))))))))))))))
def tX11_weights  (μ : xM) (Q : Int → xM → Prop) : Prop := xRan μ → 
  xLoop2 0 0 μ (fun J4 l1_1 l2_2 μ3 =>
  (xIn l2_2) ∧ ((((μ3 263 5) ≤ l2_2 → (xIn l1_1) ∧ (Q l1_1 μ3)) ∧
  (¬ (μ3 263 5) ≤ l2_2 → (0 ≤ (309 + l2_2) ∧ (309 + l2_2) < 322) ∧ (J4 (l1_1 + (μ3 263 ((309 + l2_2).toNat))) (l2_2 + 1) μ3)))))
def tX11_power (p1 : Int) (μ : xM) (Q : Int → xM → Prop) : Prop := xRan μ → (xIn p1) → 
  xLoop2 1 0 μ (fun J5 l2_1 l4_2 μ3 =>
  (xIn l4_2) ∧ (((p1 ≤ l4_2 → (xIl l2_1) ∧ (Q l2_1 μ3)) ∧
  (¬ p1 ≤ l4_2 → tX11_weights μ3 (fun r10 μ8 => (xIn r10) → xRan μ8 → (J5 (l2_1 * r10) (l4_2 + 1) μ8))))))
def tX11_hopeOf_body (F : Int → Int → xM → (Int → xM → Prop) → Prop) (p1 : Int) (p2 : Int) (μ : xM) (Q : Int → xM → Prop) : Prop := xRan μ → (xIn p1) → (xIn p2) → 
  ((p2 ≠ 0 → (0 ≤ ((15625 * (p2 - 1)) + p1) ∧ ((15625 * (p2 - 1)) + p1) < 62500) ∧ ((((if 0 < (μ 279 (((15625 * (p2 - 1)) + p1).toNat)) then 1 else if (μ 279 (((15625 * (p2 - 1)) + p1).toNat)) = 0 then 0 else -1) < 0 → xLoop2 0 0 μ (fun J40 l4_5 l6_6 μ7 =>
  (xIn l6_6) ∧ ((((μ7 263 5) ≤ l6_6 → (0 ≤ ((15625 * (p2 - 1)) + p1) ∧ ((15625 * (p2 - 1)) + p1) < 62500) ∧ ((xIl l4_5) ∧ (∀ μ14 : xM, μ14 = wi μ7 279 (((15625 * (p2 - 1)) + p1).toNat) l4_5 → xRan μ14 → (Q l4_5 μ14)))) ∧
  (¬ (μ7 263 5) ≤ l6_6 → (xIn (p2 - 1)) ∧ (F p1 (p2 - 1) μ7 (fun r20 μ18 => (xIl r20) → xRan μ18 → (xLoop2 r20 0 μ18 (fun J64 l7_22 l9_23 μ24 =>
  (xIn l9_23) ∧ ((((μ24 263 0) ≤ l9_23 → (0 ≤ (309 + l6_6) ∧ (309 + l6_6) < 322) ∧ (J40 (l4_5 + ((μ24 263 ((309 + l6_6).toNat)) * l7_22)) (l6_6 + 1) μ24)) ∧
  (¬ (μ24 263 0) ≤ l9_23 → xLoop2 l7_22 0 μ24 (fun J78 l7_31 l10_32 μ33 =>
  (xIn l10_32) ∧ ((((μ33 263 3) ≤ l10_32 → J64 l7_31 (l9_23 + 1) μ33) ∧
  (¬ (μ33 263 3) ≤ l10_32 → (0 ≤ (303 + l6_6) ∧ (303 + l6_6) < 322) ∧ ((xIn l9_23) ∧ (tX11_wordAfter p1 l9_23 l10_32 (μ33 263 ((303 + l6_6).toNat)) μ33 (fun r43 μ41 => (xIn r43) → xRan μ41 → (((0 ≤ r43 → (xIn (p2 - 1)) ∧ (tX11_power (p2 - 1) μ41 (fun r49 μ47 => (xIl r49) → xRan μ47 → (F r43 (p2 - 1) μ47 (fun r53 μ51 => (xIl r53) → xRan μ51 → ((xIl (r49 + r53)) ∧ ((xIl l7_31) ∧ ((((if l7_31 < (r49 + r53) then 1 else if (r49 + r53) = l7_31 then 0 else -1) ≤ 0 → J78 l7_31 (l10_32 + 1) μ51) ∧
  (¬ (if l7_31 < (r49 + r53) then 1 else if (r49 + r53) = l7_31 then 0 else -1) ≤ 0 → J78 (r49 + r53) (l10_32 + 1) μ51)))))))))) ∧
  (¬ 0 ≤ r43 → J78 l7_31 (l10_32 + 1) μ41)))))))))))))))))))))) ∧
  (¬ (if 0 < (μ 279 (((15625 * (p2 - 1)) + p1).toNat)) then 1 else if (μ 279 (((15625 * (p2 - 1)) + p1).toNat)) = 0 then 0 else -1) < 0 → Q (μ 279 (((15625 * (p2 - 1)) + p1).toNat)) μ)))) ∧
  (p2 = 0 → Q 0 μ))
def tX11_hopeOf : Nat → Int → Int → xM → (Int → xM → Prop) → Prop
  | 0, _, _, _, _ => False
  | n + 1, p1, p2, μ, Q => tX11_hopeOf_body (tX11_hopeOf n) p1 p2 μ Q
def tX11_common (p1 : Int) (p2 : Int) (μ : xM) (Q : Int → xM → Prop) : Prop := xRan μ → (xIl p1) → (xIl p2) → 
  xLoop2 p1 p2 μ (fun J6 l4_1 l6_2 μ3 =>
  (xIl l6_2) ∧ ((((if 0 < l6_2 then 1 else if l6_2 = 0 then 0 else -1) = 0 → (xIl l4_1) ∧ (Q l4_1 μ3)) ∧
  (¬ (if 0 < l6_2 then 1 else if l6_2 = 0 then 0 else -1) = 0 → (xIl l4_1) ∧ ((0 < l6_2) ∧ (J6 l6_2 (l4_1.tmod l6_2) μ3))))))
def tX11_hope (p1 : Int) (p2 : Int) (μ : xM) (Q : Int → xM → Prop) : Prop := xRan μ → (xIn p1) → (p2 = 0 ∨ p2 = 1) → 
  tX11_good μ (fun μ1 => xRan μ1 → ((((μ1 260 14) ≠ 0 → tX11_within p1 1 4 μ1 (fun r7 μ5 => (r7 = 0 ∨ r7 = 1) → xRan μ5 → (((r7 = 1 → (((μ5 263 5) ≠ 0 → xLoop1 0 μ5 (fun J53 l3_12 μ13 =>
  (xIn l3_12) ∧ (((62500 ≤ l3_12 → tX11_code μ13 (fun r19 μ17 => (xIn r19) → xRan μ17 → (tX11_hopeOf 8 r19 p1 μ17 (fun r23 μ21 => (xIl r23) → xRan μ21 → (tX11_power p1 μ21 (fun r27 μ25 => (xIl r27) → xRan μ25 → (tX11_common r23 r27 μ25 (fun r31 μ29 => (xIl r31) → xRan μ29 → (((p2 = 0 → (0 < r31) ∧ ((xIl (r23.tdiv r31)) ∧ (Q (r23.tdiv r31) μ29))) ∧
  (p2 = 1 → tX11_power p1 μ29 (fun r38 μ36 => (xIl r38) → xRan μ36 → ((0 < r31) ∧ ((xIl (r38.tdiv r31)) ∧ (Q (r38.tdiv r31) μ36))))))))))))))) ∧
  (¬ 62500 ≤ l3_12 → (0 ≤ l3_12 ∧ l3_12 < 62500) ∧ (∀ μ43 : xM, μ43 = wi μ13 279 l3_12.toNat (-1) → xRan μ43 → (J53 (l3_12 + 1) μ43))))))) ∧
  ((μ5 263 5) = 0 → tX11_no 6 μ5 (fun r48 μ46 => (xIn r48) → xRan μ46 → (Q r48 μ46))))) ∧
  (r7 = 0 → tX11_no 2 μ5 (fun r52 μ50 => (xIn r52) → xRan μ50 → (Q r52 μ50))))))) ∧
  ((μ1 260 14) = 0 → tX11_no 1 μ1 (fun r56 μ54 => (xIn r56) → xRan μ54 → (Q r56 μ54))))))
def tX11_grundyOf (p1 : Int) (μ : xM) (Q : Int → xM → Prop) : Prop := xRan μ → (xIn p1) → 
  xLoop2 0 0 μ (fun J4 l2_1 l3_2 μ3 =>
  (xIn l3_2) ∧ ((((μ3 263 0) ≤ l3_2 → (xIn l2_1) ∧ (Q l2_1 μ3)) ∧
  (¬ (μ3 263 0) ≤ l3_2 → tX11_wordOf p1 l3_2 μ3 (fun r11 μ9 => (xIn r11) → xRan μ9 → ((0 ≤ r11 ∧ r11 < 25) ∧ (J4 (xXor l2_1 (μ9 269 r11.toNat)) (l3_2 + 1) μ9)))))))
def tX11_game  (μ : xM) (Q : Int → xM → Prop) : Prop := xRan μ → 
  tX11_good μ (fun μ1 => xRan μ1 → ((((μ1 260 14) = 0 → tX11_no 1 μ1 (fun r7 μ5 => (xIn r7) → xRan μ5 → (Q r7 μ5))) ∧
  (¬ (μ1 260 14) = 0 → tX11_code μ1 (fun r11 μ9 => (xIn r11) → xRan μ9 → (tX11_grundyOf r11 μ9 (fun r15 μ13 => (xIn r15) → xRan μ13 → (Q r15 μ13))))))))
def tX11_move  (μ : xM) (Q : Int → xM → Prop) : Prop := xRan μ → 
  tX11_good μ (fun μ1 => xRan μ1 → ((((μ1 260 14) ≠ 0 → xLoop1 0 μ1 (fun J19 l1_5 μ6 =>
  (xIn l1_5) ∧ ((((μ6 263 0) ≤ l1_5 → Q (-2) μ6) ∧
  (¬ (μ6 263 0) ≤ l1_5 → xLoop1 0 μ6 (fun J31 l2_11 μ12 =>
  (xIn l2_11) ∧ ((((μ12 263 3) ≤ l2_11 → J19 (l1_5 + 1) μ12) ∧
  (¬ (μ12 263 3) ≤ l2_11 → (0 ≤ l1_5 ∧ l1_5 < 6) ∧ ((0 ≤ ((24 * (μ12 265 l1_5.toNat)) + l2_11) ∧ ((24 * (μ12 265 l1_5.toNat)) + l2_11) < 600) ∧ ((((μ12 267 (((24 * (μ12 265 l1_5.toNat)) + l2_11).toNat)) < 0 → J31 (l2_11 + 1) μ12) ∧
  (¬ (μ12 267 (((24 * (μ12 265 l1_5.toNat)) + l2_11).toNat)) < 0 → tX11_code μ12 (fun r24 μ22 => (xIn r24) → xRan μ22 → ((xIn l1_5) ∧ (tX11_withWord r24 l1_5 l2_11 μ22 (fun r29 μ27 => (xIn r29) → xRan μ27 → (tX11_grundyOf r29 μ27 (fun r33 μ31 => (xIn r33) → xRan μ31 → (((r33 ≠ 0 → J31 (l2_11 + 1) μ31) ∧
  (r33 = 0 → (xIn ((24 * l1_5) + l2_11)) ∧ (Q ((24 * l1_5) + l2_11) μ31))))))))))))))))))))))) ∧
  ((μ1 260 14) = 0 → tX11_no 1 μ1 (fun r39 μ37 => (xIn r39) → xRan μ37 → (Q r39 μ37))))))
def tX11_mark  (μ : xM) (Q : Int → xM → Prop) : Prop := xRan μ → 
  tX11_good μ (fun μ1 => xRan μ1 → ((((μ1 260 14) ≠ 0 → (((μ1 260 19) ≠ 3 → xLoop1 0 μ1 (fun J33 l1_7 μ8 =>
  (xIn l1_7) ∧ (((6 ≤ l1_7 → (xIn ((μ8 260 19) + 1)) ∧ (∀ μ14 : xM, μ14 = wi μ8 260 19 ((μ8 260 19) + 1) → xRan μ14 → ((xIn ((μ14 260 19) - 1)) ∧ (Q ((μ14 260 19) - 1) μ14)))) ∧
  (¬ 6 ≤ l1_7 → (0 ≤ l1_7 ∧ l1_7 < 6) ∧ ((0 ≤ ((6 * (μ8 260 19)) + l1_7) ∧ ((6 * (μ8 260 19)) + l1_7) < 18) ∧ (∀ μ23 : xM, μ23 = wi μ8 266 (((6 * (μ8 260 19)) + l1_7).toNat) (μ8 265 l1_7.toNat) → xRan μ23 → (J33 (l1_7 + 1) μ23)))))))) ∧
  ((μ1 260 19) = 3 → tX11_no 3 μ1 (fun r28 μ26 => (xIn r28) → xRan μ26 → (Q r28 μ26))))) ∧
  ((μ1 260 14) = 0 → tX11_no 1 μ1 (fun r32 μ30 => (xIn r32) → xRan μ30 → (Q r32 μ30))))))
def tX11_back (p1 : Int) (μ : xM) (Q : Int → xM → Prop) : Prop := xRan μ → (xIn p1) → 
  tX11_good μ (fun μ1 => xRan μ1 → ((xIn ((μ1 260 19) - 1)) ∧ (tX11_within p1 0 ((μ1 260 19) - 1) μ1 (fun r7 μ5 => (r7 = 0 ∨ r7 = 1) → xRan μ5 → (((r7 = 1 → xLoop1 0 μ5 (fun J26 l2_10 μ11 =>
  (xIn l2_10) ∧ (((6 ≤ l2_10 → Q 1 μ11) ∧
  (¬ 6 ≤ l2_10 → (0 ≤ ((6 * p1) + l2_10) ∧ ((6 * p1) + l2_10) < 18) ∧ ((0 ≤ l2_10 ∧ l2_10 < 6) ∧ (∀ μ18 : xM, μ18 = wi μ11 265 l2_10.toNat (μ11 266 (((6 * p1) + l2_10).toNat)) → xRan μ18 → (J26 (l2_10 + 1) μ18)))))))) ∧
  (r7 = 0 → tX11_isNot 1 μ5 (fun r23 μ21 => (r23 = 0 ∨ r23 = 1) → xRan μ21 → (Q r23 μ21)))))))))
def tX11_firstWrong  (μ : xM) (Q : Int → xM → Prop) : Prop := xRan μ → 
  xLoop1 0 μ (fun J2 l1_1 μ2 =>
  (xIn l1_1) ∧ ((((μ2 263 6) ≤ l1_1 → Q (-2) μ2) ∧
  (¬ (μ2 263 6) ≤ l1_1 → (0 ≤ (315 + l1_1) ∧ (315 + l1_1) < 322) ∧ (tX11_isGood (μ2 263 ((315 + l1_1).toNat)) μ2 (fun r11 μ9 => (r11 = 0 ∨ r11 = 1) → xRan μ9 → (((r11 = 0 → Q l1_1 μ9) ∧
  (r11 = 1 → ((l1_1 ≤ 0 → J2 (l1_1 + 1) μ9) ∧
  (¬ l1_1 ≤ 0 → (0 ≤ ((315 + l1_1) - 1) ∧ ((315 + l1_1) - 1) < 322) ∧ ((0 ≤ ((24 * (μ9 263 (((315 + l1_1) - 1).toNat))) + (μ2 263 ((315 + l1_1).toNat))) ∧ ((24 * (μ9 263 (((315 + l1_1) - 1).toNat))) + (μ2 263 ((315 + l1_1).toNat))) < 600) ∧ (((0 ≤ (μ9 267 (((24 * (μ9 263 (((315 + l1_1) - 1).toNat))) + (μ2 263 ((315 + l1_1).toNat))).toNat)) → J2 (l1_1 + 1) μ9) ∧
  (¬ 0 ≤ (μ9 267 (((24 * (μ9 263 (((315 + l1_1) - 1).toNat))) + (μ2 263 ((315 + l1_1).toNat))).toNat)) → Q l1_1 μ9)))))))))))))))
def tX11_seenWhy  (μ : xM) (Q : Int → xM → Prop) : Prop := xRan μ → 
  (((μ 260 14) ≠ 0 → (((μ 263 6) ≠ 0 → Q 0 μ) ∧
  ((μ 263 6) = 0 → Q 6 μ))) ∧
  ((μ 260 14) = 0 → Q 1 μ))
def tX11_wrong_  (μ : xM) (Q : Int → xM → Prop) : Prop := xRan μ → 
  tX11_good μ (fun μ1 => xRan μ1 → (tX11_seenWhy μ1 (fun r5 μ3 => (xIn r5) → xRan μ3 → (((r5 = 0 → tX11_firstWrong μ3 (fun r10 μ8 => (xIn r10) → xRan μ8 → (Q r10 μ8))) ∧
  (¬ r5 = 0 → tX11_no r5 μ3 (fun r14 μ12 => (xIn r14) → xRan μ12 → (Q r14 μ12))))))))
def tX11_mayBeThose (p1 : Int) (μ : xM) (Q : Int → xM → Prop) : Prop := xRan μ → (xIn p1) → 
  (0 ≤ (7 + (μ 263 315)) ∧ (7 + (μ 263 315)) < 322) ∧ (xLoop1 0 μ (fun J22 l4_4 μ5 =>
  (xIn l4_4) ∧ (((26 ≤ l4_4 → xLoop1 0 μ5 (fun J46 l4_9 μ10 =>
  (xIn l4_9) ∧ ((((μ 263 ((7 + (μ 263 315)).toNat)) ≤ l4_9 → xLoop2 0 0 μ10 (fun J93 l4_15 l6_16 μ17 =>
  (xIn l6_16) ∧ ((((μ17 263 4) ≤ l6_16 → (xIn l4_15) ∧ ((xIn (((μ 263 ((7 + (μ 263 315)).toNat)) + (μ10 263 6)) - 1)) ∧ (((l4_15 ≠ (((μ 263 ((7 + (μ 263 315)).toNat)) + (μ10 263 6)) - 1) → Q 0 μ17) ∧
  (l4_15 = (((μ 263 ((7 + (μ 263 315)).toNat)) + (μ10 263 6)) - 1) → Q 1 μ17))))) ∧
  (¬ (μ17 263 4) ≤ l6_16 → (((xAnd (xShr p1 l6_16) 1) ≠ 0 → (xIn l4_15) ∧ ((xIn (((μ 263 ((7 + (μ 263 315)).toNat)) + (μ10 263 6)) - 1)) ∧ (((l4_15 ≠ (((μ 263 ((7 + (μ 263 315)).toNat)) + (μ10 263 6)) - 1) → (0 ≤ (295 + l6_16) ∧ (295 + l6_16) < 322) ∧ ((((μ 263 ((7 + (μ 263 315)).toNat)) ≤ l4_15 → (0 ≤ ((315 + ((l4_15 - (μ 263 ((7 + (μ 263 315)).toNat))) + 1)) - 1) ∧ ((315 + ((l4_15 - (μ 263 ((7 + (μ 263 315)).toNat))) + 1)) - 1) < 322) ∧ ((0 ≤ (315 + ((l4_15 - (μ 263 ((7 + (μ 263 315)).toNat))) + 1)) ∧ (315 + ((l4_15 - (μ 263 ((7 + (μ 263 315)).toNat))) + 1)) < 322) ∧ ((0 ≤ ((24 * (μ17 263 (((315 + ((l4_15 - (μ 263 ((7 + (μ 263 315)).toNat))) + 1)) - 1).toNat))) + (μ17 263 ((315 + ((l4_15 - (μ 263 ((7 + (μ 263 315)).toNat))) + 1)).toNat))) ∧ ((24 * (μ17 263 (((315 + ((l4_15 - (μ 263 ((7 + (μ 263 315)).toNat))) + 1)) - 1).toNat))) + (μ17 263 ((315 + ((l4_15 - (μ 263 ((7 + (μ 263 315)).toNat))) + 1)).toNat))) < 600) ∧ ((((μ17 267 (((24 * (μ17 263 (((315 + ((l4_15 - (μ 263 ((7 + (μ 263 315)).toNat))) + 1)) - 1).toNat))) + (μ17 263 ((315 + ((l4_15 - (μ 263 ((7 + (μ 263 315)).toNat))) + 1)).toNat))).toNat)) = (μ17 263 ((295 + l6_16).toNat)) → J93 (l4_15 + 1) (l6_16 + 1) μ17) ∧
  (¬ (μ17 267 (((24 * (μ17 263 (((315 + ((l4_15 - (μ 263 ((7 + (μ 263 315)).toNat))) + 1)) - 1).toNat))) + (μ17 263 ((315 + ((l4_15 - (μ 263 ((7 + (μ 263 315)).toNat))) + 1)).toNat))).toNat)) = (μ17 263 ((295 + l6_16).toNat)) → Q 0 μ17)))))) ∧
  (¬ (μ 263 ((7 + (μ 263 315)).toNat)) ≤ l4_15 → (0 ≤ (μ17 263 ((295 + l6_16).toNat)) ∧ (μ17 263 ((295 + l6_16).toNat)) < 26) ∧ ((xIn ((μ17 273 ((μ17 263 ((295 + l6_16).toNat)).toNat)) - 1)) ∧ (∀ μ42 : xM, μ42 = wi μ17 273 ((μ17 263 ((295 + l6_16).toNat)).toNat) ((μ17 273 ((μ17 263 ((295 + l6_16).toNat)).toNat)) - 1) → xRan μ42 → (((0 ≤ (μ42 273 ((μ17 263 ((295 + l6_16).toNat)).toNat)) → J93 (l4_15 + 1) (l6_16 + 1) μ42) ∧
  (¬ 0 ≤ (μ42 273 ((μ17 263 ((295 + l6_16).toNat)).toNat)) → Q 0 μ42))))))))) ∧
  (l4_15 = (((μ 263 ((7 + (μ 263 315)).toNat)) + (μ10 263 6)) - 1) → Q 0 μ17))))) ∧
  ((xAnd (xShr p1 l6_16) 1) = 0 → J93 l4_15 (l6_16 + 1) μ17))))))) ∧
  (¬ (μ 263 ((7 + (μ 263 315)).toNat)) ≤ l4_9 → tX11_letterAt (μ 263 315) l4_9 μ10 (fun r49 μ47 => (xIn r49) → xRan μ47 → ((0 ≤ r49 ∧ r49 < 26) ∧ ((xIn ((μ47 273 r49.toNat) + 1)) ∧ (∀ μ54 : xM, μ54 = wi μ47 273 r49.toNat ((μ47 273 r49.toNat) + 1) → xRan μ54 → (J46 (l4_9 + 1) μ54)))))))))) ∧
  (¬ 26 ≤ l4_4 → (0 ≤ l4_4 ∧ l4_4 < 26) ∧ (∀ μ58 : xM, μ58 = wi μ5 273 l4_4.toNat 0 → xRan μ58 → (J22 (l4_4 + 1) μ58)))))))
def tX11_waysWith (p1 : Int) (μ : xM) (Q : Int → xM → Prop) : Prop := xRan μ → (xIn p1) → 
  tX11_firstWrong μ (fun r3 μ1 => (xIn r3) → xRan μ1 → (((r3 = (-2) → xLoop2 0 0 μ1 (fun J15 l2_6 l3_7 μ8 =>
  (xIn l3_7) ∧ ((((xShl 1 (μ8 263 4)) ≤ l3_7 → (xIn l2_6) ∧ (Q l2_6 μ8)) ∧
  (¬ (xShl 1 (μ8 263 4)) ≤ l3_7 → ((p1 < 0 → tX11_mayBeThose l3_7 μ8 (fun r17 μ15 => (r17 = 0 ∨ r17 = 1) → xRan μ15 → (((r17 = 0 → J15 (l2_6 + 0) (l3_7 + 1) μ15) ∧
  (r17 = 1 → J15 (l2_6 + 1) (l3_7 + 1) μ15))))) ∧
  (¬ p1 < 0 → (((xAnd (xShr l3_7 p1) 1) ≠ 1 → J15 (l2_6 + 0) (l3_7 + 1) μ8) ∧
  ((xAnd (xShr l3_7 p1) 1) = 1 → tX11_mayBeThose l3_7 μ8 (fun r23 μ21 => (r23 = 0 ∨ r23 = 1) → xRan μ21 → (((r23 = 0 → J15 (l2_6 + 0) (l3_7 + 1) μ21) ∧
  (r23 = 1 → J15 (l2_6 + 1) (l3_7 + 1) μ21))))))))))))) ∧
  (¬ r3 = (-2) → Q 0 μ1))))
def tX11_ways  (μ : xM) (Q : Int → xM → Prop) : Prop := xRan μ → 
  tX11_good μ (fun μ1 => xRan μ1 → (tX11_seenWhy μ1 (fun r5 μ3 => (xIn r5) → xRan μ3 → (((r5 = 0 → tX11_waysWith (-1) μ3 (fun r10 μ8 => (xIn r10) → xRan μ8 → (Q r10 μ8))) ∧
  (¬ r5 = 0 → tX11_no r5 μ3 (fun r14 μ12 => (xIn r14) → xRan μ12 → (Q r14 μ12))))))))
def tX11_waysOf (p1 : Int) (μ : xM) (Q : Int → xM → Prop) : Prop := xRan μ → (xIn p1) → 
  tX11_good μ (fun μ1 => xRan μ1 → (tX11_isGuest p1 μ1 (fun r5 μ3 => (r5 = 0 ∨ r5 = 1) → xRan μ3 → (((r5 = 1 → tX11_seenWhy μ3 (fun r10 μ8 => (xIn r10) → xRan μ8 → (((r10 = 0 → tX11_waysWith p1 μ8 (fun r15 μ13 => (xIn r15) → xRan μ13 → (Q r15 μ13))) ∧
  (¬ r10 = 0 → tX11_no r10 μ8 (fun r19 μ17 => (xIn r19) → xRan μ17 → (Q r19 μ17))))))) ∧
  (r5 = 0 → tX11_no 1 μ3 (fun r23 μ21 => (xIn r23) → xRan μ21 → (Q r23 μ21))))))))
def tX11_did  (μ : xM) (Q : Int → xM → Prop) : Prop := xRan μ → 
  tX11_layGrows μ (fun μ1 => xRan μ1 → (tX11_begin (μ1 265 3) μ1 (fun μ4 => xRan μ4 → (∀ μ6 : xM, μ6 = wi μ4 260 19 0 → xRan μ6 → (Q 1 μ6)))))
def tX11_rename (p1 : Int) (p2 : Int) (μ : xM) (Q : Int → xM → Prop) : Prop := xRan μ → (xIn p1) → (xIn p2) → 
  tX11_good μ (fun μ1 => xRan μ1 → (tX11_isGuest p1 μ1 (fun r5 μ3 => (r5 = 0 ∨ r5 = 1) → xRan μ3 → (((r5 = 1 → tX11_within p2 0 25 μ3 (fun r10 μ8 => (r10 = 0 ∨ r10 = 1) → xRan μ8 → (((r10 = 1 → (0 ≤ (295 + p1) ∧ (295 + p1) < 322) ∧ ((((μ8 263 ((295 + p1).toNat)) ≠ p2 → ∀ μ16 : xM, μ16 = wi μ8 263 ((295 + p1).toNat) p2 → xRan μ16 → (tX11_did μ16 (fun r21 μ19 => (r21 = 0 ∨ r21 = 1) → xRan μ19 → (Q r21 μ19)))) ∧
  ((μ8 263 ((295 + p1).toNat)) = p2 → tX11_isNot 5 μ8 (fun r25 μ23 => (r25 = 0 ∨ r25 = 1) → xRan μ23 → (Q r25 μ23)))))) ∧
  (r10 = 0 → tX11_isNot 2 μ8 (fun r29 μ27 => (r29 = 0 ∨ r29 = 1) → xRan μ27 → (Q r29 μ27))))))) ∧
  (r5 = 0 → tX11_isNot 1 μ3 (fun r33 μ31 => (r33 = 0 ∨ r33 = 1) → xRan μ31 → (Q r33 μ31))))))))
def tX11_bar_b37 (p1 : Int) (p2 : Int) (s0 : Int) (s1 : Int) (μ : xM) (Q : Int → xM → Prop)  : Prop := xRan μ →
  (xIn s0) ∧ ((xIn s1) ∧ (((s0 ≠ s1 → ((p2 = 0 → (0 ≤ (199 + p1) ∧ (199 + p1) < 322) ∧ (∀ μ16 : xM, μ16 = wi μ 263 ((199 + p1).toNat) 0 → xRan μ16 → (tX11_did μ16 (fun r21 μ19 => (r21 = 0 ∨ r21 = 1) → xRan μ19 → (Q r21 μ19))))) ∧
  (p2 = 1 → (0 ≤ (199 + p1) ∧ (199 + p1) < 322) ∧ (∀ μ24 : xM, μ24 = wi μ 263 ((199 + p1).toNat) 1 → xRan μ24 → (tX11_did μ24 (fun r29 μ27 => (r29 = 0 ∨ r29 = 1) → xRan μ27 → (Q r29 μ27))))))) ∧
  (s0 = s1 → tX11_isNot 5 μ (fun r33 μ31 => (r33 = 0 ∨ r33 = 1) → xRan μ31 → (Q r33 μ31))))))
def tX11_bar (p1 : Int) (p2 : Int) (μ : xM) (Q : Int → xM → Prop) : Prop := xRan μ → (xIn p1) → (p2 = 0 ∨ p2 = 1) → 
  tX11_good μ (fun μ1 => xRan μ1 → (tX11_isWordThere p1 μ1 (fun r5 μ3 => (r5 = 0 ∨ r5 = 1) → xRan μ3 → (((r5 = 1 → (0 ≤ (199 + p1) ∧ (199 + p1) < 322) ∧ (((p2 = 0 → tX11_bar_b37 p1 p2 (μ3 263 ((199 + p1).toNat)) 0 μ3 Q ) ∧
  (p2 = 1 → tX11_bar_b37 p1 p2 (μ3 263 ((199 + p1).toNat)) 1 μ3 Q )))) ∧
  (r5 = 0 → tX11_isNot 1 μ3 (fun r37 μ35 => (r37 = 0 ∨ r37 = 1) → xRan μ35 → (Q r37 μ35))))))))
def tX11_guest (p1 : Int) (μ : xM) (Q : Int → xM → Prop) : Prop := xRan μ → (xIn p1) → 
  tX11_good μ (fun μ1 => xRan μ1 → (tX11_isGuest p1 μ1 (fun r5 μ3 => (r5 = 0 ∨ r5 = 1) → xRan μ3 → (((r5 = 0 → tX11_no 1 μ3 (fun r10 μ8 => (xIn r10) → xRan μ8 → (Q r10 μ8))) ∧
  (r5 = 1 → (0 ≤ (295 + p1) ∧ (295 + p1) < 322) ∧ (Q (μ3 263 ((295 + p1).toNat)) μ3)))))))
def tX11_led (p1 : Int) (μ : xM) (Q : Int → xM → Prop) : Prop := xRan μ → (xIn p1) → 
  xLoop2 0 0 μ (fun J4 l2_1 l3_2 μ3 =>
  (((μ3 260 14) = 0 → ∀ μ7 : xM, μ7 = wi μ3 260 0 1 → xRan μ7 → (Q 0 μ7)) ∧
  (¬ (μ3 260 14) = 0 → (xIn l3_2) ∧ ((((μ3 265 4) ≤ l3_2 → ∀ μ13 : xM, μ13 = wi μ3 260 0 1 → xRan μ13 → (Q 0 μ13)) ∧
  (¬ (μ3 265 4) ≤ l3_2 → (((xAnd (xShr (μ3 265 5) l3_2) 1) ≠ 1 → (xIn l2_1) ∧ (((l2_1 ≠ p1 → J4 (l2_1 + 1) (l3_2 + 1) μ3) ∧
  (l2_1 = p1 → ∀ μ20 : xM, μ20 = wi μ3 260 0 0 → xRan μ20 → (Q l3_2 μ20))))) ∧
  ((xAnd (xShr (μ3 265 5) l3_2) 1) = 1 → J4 l2_1 (l3_2 + 1) μ3))))))))
def tX11_size (p1 : Int) (μ : xM) (Q : Int → xM → Prop) : Prop := xRan μ → (xIn p1) → 
  ∀ μ1 : xM, μ1 = wi μ 260 0 0 → xRan μ1 → (((p1 ≠ 9 → (((μ1 260 14) ≠ 0 → ((p1 = 0 → Q (μ1 263 0) μ1) ∧
  (p1 = 1 → Q (μ1 263 1) μ1) ∧
  (p1 = 2 → Q (μ1 263 3) μ1) ∧
  (p1 = 3 → Q (μ1 263 4) μ1) ∧
  (p1 = 4 → Q (μ1 263 5) μ1) ∧
  (p1 = 5 → Q (μ1 263 6) μ1) ∧
  (p1 = 6 → Q (μ1 265 4) μ1) ∧
  (p1 = 7 → Q (μ1 265 3) μ1) ∧
  (p1 = 8 → Q (μ1 260 19) μ1) ∧
  ((p1 < 0 ∨ 8 < p1) → Q (-1) μ1))) ∧
  ((μ1 260 14) = 0 → tX11_within p1 0 8 μ1 (fun r28 μ26 => (r28 = 0 ∨ r28 = 1) → xRan μ26 → (((r28 = 0 → Q (-1) μ26) ∧
  (r28 = 1 → Q 0 μ26))))))) ∧
  (p1 = 9 → Q (μ1 260 2) μ1)))
def tX11_trouble  (μ : xM) (Q : Int → xM → Prop) : Prop := xRan μ → 
  ∀ μ1 : xM, μ1 = wi μ 260 0 0 → xRan μ1 → (Q (μ1 260 11) μ1)
