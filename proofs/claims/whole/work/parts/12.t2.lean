def tX0_forget  (μ : xM) (Q : xM → Prop) : Prop := xRan μ → 
  (((μ 232 4) = 0 → (((μ 232 5) = 0 → Q μ) ∧
  (¬ (μ 232 5) = 0 → tJ7_fill_53178 234 11700 0 μ (fun μ5 => xRan μ5 → (∀ μ7 : xM, μ7 = wi μ5 232 5 0 → xRan μ7 → (Q μ7)))))) ∧
  (¬ (μ 232 4) = 0 → tJ7_fill_53178 233 2925 0 μ (fun μ10 => xRan μ10 → (∀ μ12 : xM, μ12 = wi μ10 232 4 0 → xRan μ12 → ((((μ12 232 5) = 0 → Q μ12) ∧
  (¬ (μ12 232 5) = 0 → tJ7_fill_53178 234 11700 0 μ12 (fun μ17 => xRan μ17 → (∀ μ19 : xM, μ19 = wi μ17 232 5 0 → xRan μ19 → (Q μ19))))))))))
def tX0_slotOf (p1 : Int) (p2 : Int) (p3 : Int) (μ : xM) (Q : Int → xM → Prop) : Prop := xRan μ → (xIn p1) → (xIn p2) → (xIn p3) → 
  (xIn ((p3 * (p3 + 1)) * (p3 + 2))) ∧ ((xIn (p2 * (p2 + 1))) ∧ ((xIn (((((p3 * (p3 + 1)) * (p3 + 2)).tdiv 6) + ((p2 * (p2 + 1)).tdiv 2)) + p1)) ∧ ((((((((p3 * (p3 + 1)) * (p3 + 2)).tdiv 6) + ((p2 * (p2 + 1)).tdiv 2)) + p1) < 0 → Q 0 μ) ∧
  (¬ (((((p3 * (p3 + 1)) * (p3 + 2)).tdiv 6) + ((p2 * (p2 + 1)).tdiv 2)) + p1) < 0 → (((((((p3 * (p3 + 1)) * (p3 + 2)).tdiv 6) + ((p2 * (p2 + 1)).tdiv 2)) + p1) < 2925 → Q (((((p3 * (p3 + 1)) * (p3 + 2)).tdiv 6) + ((p2 * (p2 + 1)).tdiv 2)) + p1) μ) ∧
  (¬ (((((p3 * (p3 + 1)) * (p3 + 2)).tdiv 6) + ((p2 * (p2 + 1)).tdiv 2)) + p1) < 2925 → Q 0 μ)))))))
def tX2_isGuest (o : Nat) (p1 : Int) (μ : xM) (Q : Int → xM → Prop) : Prop := xRan μ → (xIn p1) → 
  ((p1 < 0 → Q 0 μ) ∧
  (¬ p1 < 0 → (((μ o 4) ≤ p1 → Q 0 μ) ∧
  (¬ (μ o 4) ≤ p1 → ((8 ≤ p1 → Q 0 μ) ∧
  (¬ 8 ≤ p1 → Q 1 μ))))))
def tX2_firstOf (o : Nat) (p1 : Int) (μ : xM) (Q : Int → xM → Prop) : Prop := xRan μ → (xIn p1) → 
  tX2_isGuest o p1 μ (fun r3 μ1 => (r3 = 0 ∨ r3 = 1) → xRan μ1 → (((r3 = 0 → Q (-1) μ1) ∧
  (r3 = 1 → (0 ≤ p1 ∧ p1 < 8) ∧ (Q (μ1 (o + 30) p1.toNat) μ1)))))
def tX1_isKind (p1 : Int) (μ : xM) (Q : Int → xM → Prop) : Prop := xRan μ → (xIn p1) → 
  ((p1 < 0 → Q 0 μ) ∧
  (¬ p1 < 0 → ((25 ≤ p1 → Q 0 μ) ∧
  (¬ 25 ≤ p1 → Q 1 μ))))
def tX1_ups (p1 : Int) (μ : xM) (Q : Int → xM → Prop) : Prop := xRan μ → (xIn p1) → 
  tX1_isKind p1 μ (fun r3 μ1 => (r3 = 0 ∨ r3 = 1) → xRan μ1 → (((r3 = 0 → Q 0 μ1) ∧
  (r3 = 1 → (0 ≤ p1 ∧ p1 < 25) ∧ (Q (μ1 178 p1.toNat) μ1)))))
def tX1_isSpot (p1 : Int) (μ : xM) (Q : Int → xM → Prop) : Prop := xRan μ → (xIn p1) → 
  ((p1 < 0 → Q 0 μ) ∧
  (¬ p1 < 0 → ((24 ≤ p1 → Q 0 μ) ∧
  (¬ 24 ≤ p1 → Q 1 μ))))
def tX1_byOf (p1 : Int) (p2 : Int) (μ : xM) (Q : Int → xM → Prop) : Prop := xRan μ → (xIn p1) → (xIn p2) → 
  tX1_isKind p1 μ (fun r3 μ1 => (r3 = 0 ∨ r3 = 1) → xRan μ1 → (((r3 = 0 → Q (-1) μ1) ∧
  (r3 = 1 → tX1_isSpot p2 μ1 (fun r8 μ6 => (r8 = 0 ∨ r8 = 1) → xRan μ6 → (((r8 = 0 → Q (-1) μ6) ∧
  (r8 = 1 → (0 ≤ p1 ∧ p1 < 25) ∧ ((0 ≤ p2 ∧ p2 < 24) ∧ (Q (μ6 (153 + p1.toNat) p2.toNat) μ6))))))))))
def tX1_upOf (p1 : Int) (p2 : Int) (μ : xM) (Q : Int → xM → Prop) : Prop := xRan μ → (xIn p1) → (xIn p2) → 
  tX1_isKind p1 μ (fun r3 μ1 => (r3 = 0 ∨ r3 = 1) → xRan μ1 → (((r3 = 0 → Q (-1) μ1) ∧
  (r3 = 1 → tX1_isSpot p2 μ1 (fun r8 μ6 => (r8 = 0 ∨ r8 = 1) → xRan μ6 → (((r8 = 0 → Q (-1) μ6) ∧
  (r8 = 1 → (0 ≤ p1 ∧ p1 < 25) ∧ ((0 ≤ p2 ∧ p2 < 24) ∧ (Q (μ6 (127 + p1.toNat) p2.toNat) μ6))))))))))
def tX0_mostSeated (F : Int → Int → Int → Int → xM → (Int → xM → Prop) → Prop) (p1 : Int) (p2 : Int) (p3 : Int) (p4 : Int) (μ : xM) (Q : Int → xM → Prop) : Prop := xRan μ → (xIn p1) → (xIn p2) → (xIn p3) → (xIn p4) → 
  tX2_firstOf 39 p1 μ (fun r3 μ1 => (xIn r3) → xRan μ1 → (xLoop2 0 0 μ1 (fun J16 l6_5 l7_6 μ7 =>
  tX1_ups p2 μ7 (fun r11 μ9 => (xIn r11) → xRan μ9 → ((xIn l7_6) ∧ (((r11 ≤ l7_6 → (xIn l6_5) ∧ (Q l6_5 μ9)) ∧
  (¬ r11 ≤ l7_6 → tX1_byOf p2 l7_6 μ9 (fun r18 μ16 => (xIn r18) → xRan μ16 → (((r18 ≠ r3 → J16 l6_5 (l7_6 + 1) μ16) ∧
  (r18 = r3 → tX1_upOf p2 l7_6 μ16 (fun r23 μ21 => (xIn r23) → xRan μ21 → ((xIn (p1 + 1)) ∧ (F (p1 + 1) r23 p3 p4 μ21 (fun r28 μ26 => (xIn r28) → xRan μ26 → ((xIn l6_5) ∧ ((xIn (1 + r28)) ∧ (J16 (max l6_5 (1 + r28)) (l7_6 + 1) μ26)))))))))))))))))))
def tX0_mostFrom_b209 (F : Int → Int → Int → Int → xM → (Int → xM → Prop) → Prop) (p1 : Int) (p2 : Int) (p3 : Int) (p4 : Int) (b8 : Int) (b9 : Int) (b11 : Int) (μ : xM) (Q : Int → xM → Prop)  : Prop := xRan μ →
  (0 ≤ b8 ∧ b8 < 2925) ∧ (∀ μ29 : xM, μ29 = wi μ 233 b8.toNat (xOr (μ 233 b8.toNat) (xShl (b11 + 1) b9)) → xRan μ29 → (∀ μ32 : xM, μ32 = wi μ29 232 4 1 → xRan μ32 → ((xIn b11) ∧ (Q b11 μ32))))
def tX0_mostFrom_b173 (F : Int → Int → Int → Int → xM → (Int → xM → Prop) → Prop) (p1 : Int) (p2 : Int) (p3 : Int) (p4 : Int) (b5 : Int) (b6 : Int) (b7 : Int) (b8 : Int) (b9 : Int) (b11 : Int) (μ : xM) (Q : Int → xM → Prop)  : Prop := xRan μ →
  (((μ 39 0) ≤ 2 → tX0_mostFrom_b209 F p1 p2 p3 p4 b8 b9 b11 μ Q ) ∧
  (¬ (μ 39 0) ≤ 2 → (xIn b6) ∧ ((xIn b7) ∧ (((b6 = b7 → tX0_mostFrom_b209 F p1 p2 p3 p4 b8 b9 b11 μ Q ) ∧
  (¬ b6 = b7 → (xIn b5) ∧ (tX0_mostSeated F p1 b6 b5 b7 μ (fun r42 μ40 => (xIn r42) → xRan μ40 → ((xIn b11) ∧ (tX0_mostFrom_b209 F p1 p2 p3 p4 b8 b9 (max b11 r42) μ40 Q ))))))))))
def tX0_mostFrom_body (F : Int → Int → Int → Int → xM → (Int → xM → Prop) → Prop) (p1 : Int) (p2 : Int) (p3 : Int) (p4 : Int) (μ : xM) (Q : Int → xM → Prop) : Prop := xRan μ → (xIn p1) → (xIn p2) → (xIn p3) → (xIn p4) → 
  ((p1 < 0 → Q 0 μ) ∧
  (¬ p1 < 0 → (((μ 39 4) ≤ p1 → Q 0 μ) ∧
  (¬ (μ 39 4) ≤ p1 → (((min p2 (min p3 p4)) < 0 → Q 0 μ) ∧
  (¬ (min p2 (min p3 p4)) < 0 → (((max p2 (max p3 p4)) < 25 → (xIn ((((p2 + p3) + p4) - (min p2 (min p3 p4))) - (max p2 (max p3 p4)))) ∧ (tX0_slotOf (min p2 (min p3 p4)) ((((p2 + p3) + p4) - (min p2 (min p3 p4))) - (max p2 (max p3 p4))) (max p2 (max p3 p4)) μ (fun r9 μ7 => (xIn r9) → xRan μ7 → ((0 ≤ r9 ∧ r9 < 2925) ∧ ((((xAnd (xUshr (μ7 233 r9.toNat) (4 * p1)) 15) ≤ 0 → (xIn (p1 + 1)) ∧ (F (p1 + 1) (min p2 (min p3 p4)) ((((p2 + p3) + p4) - (min p2 (min p3 p4))) - (max p2 (max p3 p4))) (max p2 (max p3 p4)) μ7 (fun r17 μ15 => (xIn r17) → xRan μ15 → (tX0_mostSeated F p1 (min p2 (min p3 p4)) ((((p2 + p3) + p4) - (min p2 (min p3 p4))) - (max p2 (max p3 p4))) (max p2 (max p3 p4)) μ15 (fun r21 μ19 => (xIn r21) → xRan μ19 → ((((μ19 39 0) ≤ 1 → tX0_mostFrom_b173 F p1 p2 p3 p4 (min p2 (min p3 p4)) (max p2 (max p3 p4)) ((((p2 + p3) + p4) - (min p2 (min p3 p4))) - (max p2 (max p3 p4))) r9 (4 * p1) (max r17 r21) μ19 Q ) ∧
  (¬ (μ19 39 0) ≤ 1 → ((((((p2 + p3) + p4) - (min p2 (min p3 p4))) - (max p2 (max p3 p4))) = (min p2 (min p3 p4)) → tX0_mostFrom_b173 F p1 p2 p3 p4 (min p2 (min p3 p4)) (max p2 (max p3 p4)) ((((p2 + p3) + p4) - (min p2 (min p3 p4))) - (max p2 (max p3 p4))) r9 (4 * p1) (max r17 r21) μ19 Q ) ∧
  (¬ ((((p2 + p3) + p4) - (min p2 (min p3 p4))) - (max p2 (max p3 p4))) = (min p2 (min p3 p4)) → tX0_mostSeated F p1 ((((p2 + p3) + p4) - (min p2 (min p3 p4))) - (max p2 (max p3 p4))) (min p2 (min p3 p4)) (max p2 (max p3 p4)) μ19 (fun r48 μ46 => (xIn r48) → xRan μ46 → (tX0_mostFrom_b173 F p1 p2 p3 p4 (min p2 (min p3 p4)) (max p2 (max p3 p4)) ((((p2 + p3) + p4) - (min p2 (min p3 p4))) - (max p2 (max p3 p4))) r9 (4 * p1) (max (max r17 r21) r48) μ46 Q )))))))))))) ∧
  (¬ (xAnd (xUshr (μ7 233 r9.toNat) (4 * p1)) 15) ≤ 0 → (xIn ((xAnd (xUshr (μ7 233 r9.toNat) (4 * p1)) 15) - 1)) ∧ (Q ((xAnd (xUshr (μ7 233 r9.toNat) (4 * p1)) 15) - 1) μ7)))))))) ∧
  (¬ (max p2 (max p3 p4)) < 25 → Q 0 μ))))))))
def tX0_mostFrom : Nat → Int → Int → Int → Int → xM → (Int → xM → Prop) → Prop
  | 0, _, _, _, _, _, _ => False
  | n + 1, p1, p2, p3, p4, μ, Q => tX0_mostFrom_body (tX0_mostFrom n) p1 p2 p3 p4 μ Q
def tX0_fromBeginning  (μ : xM) (Q : Int → xM → Prop) : Prop := xRan μ → 
  tX0_mostFrom 12 0 24 24 24 μ (fun r3 μ1 => (xIn r3) → xRan μ1 → (Q r3 μ1))
def tX4_at (o : Nat) (p1 : Int) (μ : xM) (Q : Int → xM → Prop) : Prop := xRan μ → (xIn p1) → 
  ((p1 < 0 → Q 24 μ) ∧
  (¬ p1 < 0 → ((3 ≤ p1 → Q 24 μ) ∧
  (¬ 3 ≤ p1 → (0 ≤ p1 ∧ p1 < 3) ∧ (Q (μ (o + 1) p1.toNat) μ)))))
def tX0_behindNext_b20 (p1 : Nat) (p2 : Int) (p3 : Int) (s1 : Int) (s2 : Int) (μ : xM) (Q : Int → xM → Prop)  : Prop := xRan μ →
  ((p2 ≠ 1 → tX4_at p1 1 μ (fun r10 μ8 => (xIn r10) → xRan μ8 → (((p2 ≠ 2 → tX4_at p1 2 μ8 (fun r15 μ13 => (xIn r15) → xRan μ13 → ((xIn s1) ∧ ((xIn s2) ∧ (tX0_mostFrom 12 s1 s2 r10 r15 μ13 (fun r21 μ19 => (xIn r21) → xRan μ19 → (Q r21 μ19))))))) ∧
  (p2 = 2 → (xIn s1) ∧ ((xIn s2) ∧ (tX0_mostFrom 12 s1 s2 r10 p3 μ8 (fun r27 μ25 => (xIn r27) → xRan μ25 → (Q r27 μ25))))))))) ∧
  (p2 = 1 → ((p2 ≠ 2 → tX4_at p1 2 μ (fun r32 μ30 => (xIn r32) → xRan μ30 → ((xIn s1) ∧ ((xIn s2) ∧ (tX0_mostFrom 12 s1 s2 p3 r32 μ30 (fun r38 μ36 => (xIn r38) → xRan μ36 → (Q r38 μ36))))))) ∧
  (p2 = 2 → (xIn s1) ∧ ((xIn s2) ∧ (tX0_mostFrom 12 s1 s2 p3 p3 μ (fun r44 μ42 => (xIn r44) → xRan μ42 → (Q r44 μ42))))))))
def tX0_behindNext (p1 : Nat) (p2 : Int) (p3 : Int) (μ : xM) (Q : Int → xM → Prop) : Prop := xRan μ → (xIn p2) → (xIn p3) → 
  ((p2 ≠ 0 → tX4_at p1 0 μ (fun r5 μ3 => (xIn r5) → xRan μ3 → (tX0_behindNext_b20 p1 p2 p3 ((μ p1 1) + 1) r5 μ3 Q ))) ∧
  (p2 = 0 → tX0_behindNext_b20 p1 p2 p3 ((μ p1 1) + 1) p3 μ Q ))
def tX2_likelyOf (o : Nat) (p1 : Int) (μ : xM) (Q : Int → xM → Prop) : Prop := xRan μ → (xIn p1) → 
  ((p1 < 0 → Q (-1) μ) ∧
  (¬ p1 < 0 → (((μ o 5) ≤ p1 → Q (-1) μ) ∧
  (¬ (μ o 5) ≤ p1 → ((6 ≤ p1 → Q (-1) μ) ∧
  (¬ 6 ≤ p1 → (0 ≤ p1 ∧ p1 < 6) ∧ (Q (μ (o + 31) p1.toNat) μ)))))))
def tX2_weightOf (o : Nat) (p1 : Int) (μ : xM) (Q : Int → xM → Prop) : Prop := xRan μ → (xIn p1) → 
  ((p1 < 0 → Q 0 μ) ∧
  (¬ p1 < 0 → (((μ o 5) ≤ p1 → Q 0 μ) ∧
  (¬ (μ o 5) ≤ p1 → ((6 ≤ p1 → Q 0 μ) ∧
  (¬ 6 ≤ p1 → (0 ≤ p1 ∧ p1 < 6) ∧ (Q (μ (o + 32) p1.toNat) μ)))))))
def tX0_weightOf (p1 : Int) (μ : xM) (Q : Int → xM → Prop) : Prop := xRan μ → (xIn p1) → 
  xLoop2 0 0 μ (fun J4 l2_1 l3_2 μ3 =>
  (xIn l3_2) ∧ ((((μ3 39 5) ≤ l3_2 → xLoop2 1 0 μ3 (fun J37 l3_8 l4_9 μ10 =>
  (xIn l4_9) ∧ (((p1 ≤ l4_9 → (xIn l3_8) ∧ (Q l3_8 μ10)) ∧
  (¬ p1 ≤ l4_9 → ((4 ≤ l4_9 → (xIn l3_8) ∧ (Q l3_8 μ10)) ∧
  (¬ 4 ≤ l4_9 → J37 (l3_8 * l2_1) (l4_9 + 1) μ10))))))) ∧
  (¬ (μ3 39 5) ≤ l3_2 → tX2_weightOf 39 l3_2 μ3 (fun r19 μ17 => (xIn r19) → xRan μ17 → (J4 (l2_1 + r19) (l3_2 + 1) μ17))))))
def tX0_hopedSeated (F : Int → Int → Int → Int → xM → (Int → xM → Prop) → Prop) (p1 : Int) (p2 : Int) (p3 : Int) (p4 : Int) (p5 : Int) (μ : xM) (Q : Int → xM → Prop) : Prop := xRan μ → (xIn p1) → (xIn p2) → (xIn p3) → (xIn p4) → (xIn p5) → 
  xLoop2 0 0 μ (fun J6 l6_1 l7_2 μ3 =>
  tX1_ups p3 μ3 (fun r7 μ5 => (xIn r7) → xRan μ5 → ((xIn l7_2) ∧ (((r7 ≤ l7_2 → (xIn l6_1) ∧ (Q l6_1 μ5)) ∧
  (¬ r7 ≤ l7_2 → tX1_byOf p3 l7_2 μ5 (fun r14 μ12 => (xIn r14) → xRan μ12 → (((r14 ≠ p2 → J6 l6_1 (l7_2 + 1) μ12) ∧
  (r14 = p2 → (xIn (p1 - 1)) ∧ (tX0_weightOf (p1 - 1) μ12 (fun r20 μ18 => (xIn r20) → xRan μ18 → (tX1_upOf p3 l7_2 μ18 (fun r24 μ22 => (xIn r24) → xRan μ22 → (F (p1 - 1) r24 p4 p5 μ22 (fun r28 μ26 => (xIn r28) → xRan μ26 → ((xIn l6_1) ∧ ((xIn (r20 + r28)) ∧ (J6 (max l6_1 (r20 + r28)) (l7_2 + 1) μ26)))))))))))))))))))
def tX0_hoped_b203 (F : Int → Int → Int → Int → xM → (Int → xM → Prop) → Prop) (p1 : Int) (p2 : Int) (p3 : Int) (p4 : Int) (b5 : Int) (b6 : Int) (b7 : Int) (b8 : Int) (b9 : Int) (b10 : Int) (b11 : Int) (b12 : Int) (b13 : Int) (μ : xM) (Q : Int → xM → Prop) (J122 : Int → Int → xM → Prop) : Prop := xRan μ →
  (((μ 39 0) ≤ 2 → (xIn b11) ∧ (tX2_weightOf 39 b11 μ (fun r50 μ48 => (xIn r50) → xRan μ48 → (J122 (b10 + (r50 * b13)) (b11 + 1) μ48)))) ∧
  (¬ (μ 39 0) ≤ 2 → (xIn b6) ∧ ((xIn b7) ∧ (((b6 = b7 → (xIn b11) ∧ (tX2_weightOf 39 b11 μ (fun r58 μ56 => (xIn r58) → xRan μ56 → (J122 (b10 + (r58 * b13)) (b11 + 1) μ56)))) ∧
  (¬ b6 = b7 → (xIn b12) ∧ ((xIn b5) ∧ (tX0_hopedSeated F p1 b12 b6 b5 b7 μ (fun r64 μ62 => (xIn r64) → xRan μ62 → ((xIn b13) ∧ ((xIn b11) ∧ (tX2_weightOf 39 b11 μ62 (fun r70 μ68 => (xIn r70) → xRan μ68 → (J122 (b10 + (r70 * (max b13 r64))) (b11 + 1) μ68))))))))))))))
def tX0_hoped_body (F : Int → Int → Int → Int → xM → (Int → xM → Prop) → Prop) (p1 : Int) (p2 : Int) (p3 : Int) (p4 : Int) (μ : xM) (Q : Int → xM → Prop) : Prop := xRan μ → (xIn p1) → (xIn p2) → (xIn p3) → (xIn p4) → 
  ((p1 < 1 → Q 0 μ) ∧
  (¬ p1 < 1 → ((4 < p1 → Q 0 μ) ∧
  (¬ 4 < p1 → (((min p2 (min p3 p4)) < 0 → Q 0 μ) ∧
  (¬ (min p2 (min p3 p4)) < 0 → (((max p2 (max p3 p4)) < 25 → (xIn ((((p2 + p3) + p4) - (min p2 (min p3 p4))) - (max p2 (max p3 p4)))) ∧ (tX0_slotOf (min p2 (min p3 p4)) ((((p2 + p3) + p4) - (min p2 (min p3 p4))) - (max p2 (max p3 p4))) (max p2 (max p3 p4)) μ (fun r8 μ6 => (xIn r8) → xRan μ6 → ((0 ≤ (((p1 - 1) * 2925) + r8) ∧ (((p1 - 1) * 2925) + r8) < 11700) ∧ ((((μ6 234 ((((p1 - 1) * 2925) + r8).toNat)) ≤ 0 → (xIn (p1 - 1)) ∧ (F (p1 - 1) (min p2 (min p3 p4)) ((((p2 + p3) + p4) - (min p2 (min p3 p4))) - (max p2 (max p3 p4))) (max p2 (max p3 p4)) μ6 (fun r16 μ14 => (xIn r16) → xRan μ14 → (xLoop2 0 0 μ14 (fun J122 l10_18 l11_19 μ20 =>
  (xIn l11_19) ∧ ((((μ20 39 5) ≤ l11_19 → (0 ≤ (((p1 - 1) * 2925) + r8) ∧ (((p1 - 1) * 2925) + r8) < 11700) ∧ ((xIn (l10_18 + 1)) ∧ (∀ μ27 : xM, μ27 = wi μ20 234 ((((p1 - 1) * 2925) + r8).toNat) (l10_18 + 1) → xRan μ27 → (∀ μ30 : xM, μ30 = wi μ27 232 5 1 → xRan μ30 → ((xIn l10_18) ∧ (Q l10_18 μ30)))))) ∧
  (¬ (μ20 39 5) ≤ l11_19 → tX2_likelyOf 39 l11_19 μ20 (fun r36 μ34 => (xIn r36) → xRan μ34 → ((xIn ((((p2 + p3) + p4) - (min p2 (min p3 p4))) - (max p2 (max p3 p4)))) ∧ (tX0_hopedSeated F p1 r36 (min p2 (min p3 p4)) ((((p2 + p3) + p4) - (min p2 (min p3 p4))) - (max p2 (max p3 p4))) (max p2 (max p3 p4)) μ34 (fun r41 μ39 => (xIn r41) → xRan μ39 → ((((μ39 39 0) ≤ 1 → tX0_hoped_b203 F p1 p2 p3 p4 (min p2 (min p3 p4)) (max p2 (max p3 p4)) ((((p2 + p3) + p4) - (min p2 (min p3 p4))) - (max p2 (max p3 p4))) (((p1 - 1) * 2925) + r8) r16 l10_18 l11_19 r36 (max r16 r41) μ39 Q J122) ∧
  (¬ (μ39 39 0) ≤ 1 → ((((((p2 + p3) + p4) - (min p2 (min p3 p4))) - (max p2 (max p3 p4))) = (min p2 (min p3 p4)) → tX0_hoped_b203 F p1 p2 p3 p4 (min p2 (min p3 p4)) (max p2 (max p3 p4)) ((((p2 + p3) + p4) - (min p2 (min p3 p4))) - (max p2 (max p3 p4))) (((p1 - 1) * 2925) + r8) r16 l10_18 l11_19 r36 (max r16 r41) μ39 Q J122) ∧
  (¬ ((((p2 + p3) + p4) - (min p2 (min p3 p4))) - (max p2 (max p3 p4))) = (min p2 (min p3 p4)) → tX0_hopedSeated F p1 r36 ((((p2 + p3) + p4) - (min p2 (min p3 p4))) - (max p2 (max p3 p4))) (min p2 (min p3 p4)) (max p2 (max p3 p4)) μ39 (fun r75 μ73 => (xIn r75) → xRan μ73 → (tX0_hoped_b203 F p1 p2 p3 p4 (min p2 (min p3 p4)) (max p2 (max p3 p4)) ((((p2 + p3) + p4) - (min p2 (min p3 p4))) - (max p2 (max p3 p4))) (((p1 - 1) * 2925) + r8) r16 l10_18 l11_19 r36 (max (max r16 r41) r75) μ73 Q J122))))))))))))))))))) ∧
  (¬ (μ6 234 ((((p1 - 1) * 2925) + r8).toNat)) ≤ 0 → (xIn ((μ6 234 ((((p1 - 1) * 2925) + r8).toNat)) - 1)) ∧ (Q ((μ6 234 ((((p1 - 1) * 2925) + r8).toNat)) - 1) μ6)))))))) ∧
  (¬ (max p2 (max p3 p4)) < 25 → Q 0 μ))))))))
def tX0_hoped : Nat → Int → Int → Int → Int → xM → (Int → xM → Prop) → Prop
  | 0, _, _, _, _, _, _ => False
  | n + 1, p1, p2, p3, p4, μ, Q => tX0_hoped_body (tX0_hoped n) p1 p2 p3 p4 μ Q
def tX0_hopeFrom (p1 : Nat) (p2 : Int) (μ : xM) (Q : Int → xM → Prop) : Prop := xRan μ → (xIn p2) → 
  tX4_at p1 0 μ (fun r3 μ1 => (xIn r3) → xRan μ1 → (tX4_at p1 1 μ1 (fun r7 μ5 => (xIn r7) → xRan μ5 → (tX4_at p1 2 μ5 (fun r11 μ9 => (xIn r11) → xRan μ9 → (tX0_hoped 8 p2 r3 r7 r11 μ9 (fun r15 μ13 => (xIn r15) → xRan μ13 → (Q r15 μ13))))))))
def tX2_isWord (o : Nat) (p1 : Int) (μ : xM) (Q : Int → xM → Prop) : Prop := xRan μ → (xIn p1) → 
  ((p1 < 0 → Q 0 μ) ∧
  (¬ p1 < 0 → (((μ o 3) ≤ p1 → Q 0 μ) ∧
  (¬ (μ o 3) ≤ p1 → ((24 ≤ p1 → Q 0 μ) ∧
  (¬ 24 ≤ p1 → Q 1 μ))))))
def tX2_lengthOf (o : Nat) (p1 : Int) (μ : xM) (Q : Int → xM → Prop) : Prop := xRan μ → (xIn p1) → 
  tX2_isWord o p1 μ (fun r3 μ1 => (r3 = 0 ∨ r3 = 1) → xRan μ1 → (((r3 = 0 → Q 0 μ1) ∧
  (r3 = 1 → (0 ≤ p1 ∧ p1 < 24) ∧ (Q (μ1 (o + 1) p1.toNat) μ1)))))
def tX2_glyphOf (o : Nat) (p1 : Int) (p2 : Int) (μ : xM) (Q : Int → xM → Prop) : Prop := xRan μ → (xIn p1) → (xIn p2) → 
  tX2_isWord o p1 μ (fun r3 μ1 => (r3 = 0 ∨ r3 = 1) → xRan μ1 → (((r3 = 0 → Q (-1) μ1) ∧
  (r3 = 1 → ((p2 < 0 → Q (-1) μ1) ∧
  (¬ p2 < 0 → ((6 ≤ p2 → Q (-1) μ1) ∧
  (¬ 6 ≤ p2 → (0 ≤ p1 ∧ p1 < 25) ∧ ((0 ≤ p2 ∧ p2 < 6) ∧ (Q (μ1 (o + 4 + p1.toNat) p2.toNat) μ1))))))))))
def tX1_isWithout (p1 : Int) (p2 : Int) (p3 : Int) (μ : xM) (Q : Int → xM → Prop) : Prop := xRan μ → (xIn p1) → (xIn p2) → (xIn p3) → 
  xLoop1 0 μ (fun J3 l4_1 μ2 =>
  tX2_lengthOf 39 p3 μ2 (fun r6 μ4 => (xIn r6) → xRan μ4 → ((xIn l4_1) ∧ (((r6 ≤ l4_1 → Q 1 μ4) ∧
  (¬ r6 ≤ l4_1 → tX2_glyphOf 39 p3 l4_1 μ4 (fun r12 μ10 => (xIn r12) → xRan μ10 → (((p2 ≤ l4_1 → (xIn (l4_1 + 1)) ∧ (tX2_glyphOf 39 p1 (l4_1 + 1) μ10 (fun r18 μ16 => (xIn r18) → xRan μ16 → (((r12 = r18 → J3 (l4_1 + 1) μ16) ∧
  (¬ r12 = r18 → Q 0 μ16)))))) ∧
  (¬ p2 ≤ l4_1 → tX2_glyphOf 39 p1 l4_1 μ10 (fun r23 μ21 => (xIn r23) → xRan μ21 → (((r12 = r23 → J3 (l4_1 + 1) μ21) ∧
  (¬ r12 = r23 → Q 0 μ21))))))))))))))
def tX1_letterBetween_b76 (p1 : Int) (p2 : Int) (b3 : Int) (b4 : Int) (s0 : Int) (μ : xM) (Q : Int → xM → Prop) (J33 : Int → xM → Prop) : Prop := xRan μ →
  (xIn s0) ∧ (((s0 = 0 → J33 (b4 + 1) μ) ∧
  (¬ s0 = 0 → (xIn b4) ∧ (tX1_isWithout p2 b4 p1 μ (fun r23 μ21 => (r23 = 0 ∨ r23 = 1) → xRan μ21 → (((r23 = 0 → J33 (b4 + 1) μ21) ∧
  (r23 = 1 → tX2_glyphOf 39 p2 b4 μ21 (fun r28 μ26 => (xIn r28) → xRan μ26 → (Q r28 μ26))))))))))
def tX1_letterBetween_b71 (p1 : Int) (p2 : Int) (b3 : Int) (b4 : Int) (μ : xM) (Q : Int → xM → Prop) (J33 : Int → xM → Prop) : Prop := xRan μ →
  tX1_letterBetween_b76 p1 p2 b3 b4 1 μ Q J33
def tX1_letterBetween_b75 (p1 : Int) (p2 : Int) (b3 : Int) (b4 : Int) (μ : xM) (Q : Int → xM → Prop) (J33 : Int → xM → Prop) : Prop := xRan μ →
  tX1_letterBetween_b76 p1 p2 b3 b4 0 μ Q J33
def tX1_letterBetween (p1 : Int) (p2 : Int) (μ : xM) (Q : Int → xM → Prop) : Prop := xRan μ → (xIn p1) → (xIn p2) → 
  tX2_lengthOf 39 p1 μ (fun r3 μ1 => (xIn r3) → xRan μ1 → (((r3 < 1 → Q (-1) μ1) ∧
  (¬ r3 < 1 → tX2_lengthOf 39 p2 μ1 (fun r8 μ6 => (xIn r8) → xRan μ6 → ((xIn (r3 + 1)) ∧ (((r8 = (r3 + 1) → xLoop1 0 μ6 (fun J33 l4_12 μ13 =>
  (xIn l4_12) ∧ (((r3 < l4_12 → Q (-1) μ13) ∧
  (¬ r3 < l4_12 → ((l4_12 = r3 → tX1_letterBetween_b71 p1 p2 r3 l4_12 μ13 Q J33) ∧
  (¬ l4_12 = r3 → (((μ13 39 2) = 0 → tX1_letterBetween_b71 p1 p2 r3 l4_12 μ13 Q J33) ∧
  (¬ (μ13 39 2) = 0 → ((l4_12 ≠ 0 → tX1_letterBetween_b75 p1 p2 r3 l4_12 μ13 Q J33) ∧
  (l4_12 = 0 → (((μ13 39 2) ≠ 1 → tX1_letterBetween_b75 p1 p2 r3 l4_12 μ13 Q J33) ∧
  ((μ13 39 2) = 1 → tX1_letterBetween_b71 p1 p2 r3 l4_12 μ13 Q J33))))))))))))) ∧
  (¬ r8 = (r3 + 1) → Q (-1) μ6)))))))))
def tX2_isGood (o : Nat) (p1 : Int) (μ : xM) (Q : Int → xM → Prop) : Prop := xRan μ → (xIn p1) → 
  tX2_isWord o p1 μ (fun r3 μ1 => (r3 = 0 ∨ r3 = 1) → xRan μ1 → (((r3 = 0 → Q 0 μ1) ∧
  (r3 = 1 → (0 ≤ p1 ∧ p1 < 24) ∧ ((((μ1 (o + 29) p1.toNat) ≠ 0 → Q 0 μ1) ∧
  ((μ1 (o + 29) p1.toNat) = 0 → (((μ1 o 1) < (μ1 (o + 1) p1.toNat) → Q 0 μ1) ∧
  (¬ (μ1 o 1) < (μ1 (o + 1) p1.toNat) → Q 1 μ1)))))))))
def tX1_link (p1 : Int) (p2 : Int) (μ : xM) (Q : xM → Prop) : Prop := xRan μ → (xIn p1) → (xIn p2) → 
  (0 ≤ p1 ∧ p1 < 25) ∧ (((24 ≤ (μ 178 p1.toNat) → Q μ) ∧
  (¬ 24 ≤ (μ 178 p1.toNat) → (0 ≤ p2 ∧ p2 < 24) ∧ (((25 ≤ (μ 204 p2.toNat) → Q μ) ∧
  (¬ 25 ≤ (μ 204 p2.toNat) → (0 ≤ (μ 178 p1.toNat) ∧ (μ 178 p1.toNat) < 24) ∧ (∀ μ9 : xM, μ9 = wi μ (127 + p1.toNat) ((μ 178 p1.toNat).toNat) p2 → xRan μ9 → ((0 ≤ (μ9 178 p1.toNat) ∧ (μ9 178 p1.toNat) < 24) ∧ (∀ μ15 : xM, μ15 = wi μ9 (153 + p1.toNat) ((μ9 178 p1.toNat).toNat) (μ9 (101 + p1.toNat) p2.toNat) → xRan μ15 → ((xIn ((μ15 178 p1.toNat) + 1)) ∧ (∀ μ20 : xM, μ20 = wi μ15 178 p1.toNat ((μ15 178 p1.toNat) + 1) → xRan μ20 → ((0 ≤ (μ20 204 p2.toNat) ∧ (μ20 204 p2.toNat) < 25) ∧ (∀ μ25 : xM, μ25 = wi μ20 (180 + p2.toNat) ((μ20 204 p2.toNat).toNat) p1 → xRan μ25 → ((xIn ((μ25 204 p2.toNat) + 1)) ∧ (∀ μ30 : xM, μ30 = wi μ25 204 p2.toNat ((μ25 204 p2.toNat) + 1) → xRan μ30 → (Q μ30))))))))))))))))
def tX1_chainOf (p1 : Int) (μ : xM) (Q : Int → xM → Prop) : Prop := xRan μ → (xIn p1) → 
  tX1_isKind p1 μ (fun r3 μ1 => (r3 = 0 ∨ r3 = 1) → xRan μ1 → (((r3 = 0 → Q 0 μ1) ∧
  (r3 = 1 → (0 ≤ p1 ∧ p1 < 25) ∧ (Q (μ1 205 p1.toNat) μ1)))))
def tX1_nimOf (p1 : Int) (μ : xM) (Q : Int → xM → Prop) : Prop := xRan μ → (xIn p1) → 
  tX1_isKind p1 μ (fun r3 μ1 => (r3 = 0 ∨ r3 = 1) → xRan μ1 → (((r3 = 0 → Q 0 μ1) ∧
  (r3 = 1 → (0 ≤ p1 ∧ p1 < 25) ∧ (Q (μ1 206 p1.toNat) μ1)))))
def tX1_leastWithout (p1 : Int) (μ : xM) (Q : Int → xM → Prop) : Prop := xRan μ → (xIn p1) → 
  xLoop1 0 μ (fun J2 l1_1 μ2 =>
  (xIn l1_1) ∧ (((31 ≤ l1_1 → Q l1_1 μ2) ∧
  (¬ 31 ≤ l1_1 → (((xAnd (xShr p1 l1_1) 1) ≠ 1 → Q l1_1 μ2) ∧
  ((xAnd (xShr p1 l1_1) 1) = 1 → J2 (l1_1 + 1) μ2))))))
def tX1_lookUp (p1 : Int) (μ : xM) (Q : xM → Prop) : Prop := xRan μ → (xIn p1) → 
  xLoop1 0 μ (fun J2 l2_1 μ2 =>
  (xIn l2_1) ∧ (((25 ≤ l2_1 → Q μ2) ∧
  (¬ 25 ≤ l2_1 → tX2_lengthOf 39 l2_1 μ2 (fun r8 μ6 => (xIn r8) → xRan μ6 → (((r8 = p1 → xLoop3 0 0 0 μ6 (fun J31 l3_11 l4_12 l5_13 μ14 =>
  (0 ≤ l2_1 ∧ l2_1 < 25) ∧ ((xIn l5_13) ∧ ((((μ14 178 l2_1.toNat) ≤ l5_13 → (xIn l3_11) ∧ (∀ μ21 : xM, μ21 = wi μ14 205 l2_1.toNat l3_11 → xRan μ21 → ((xIn l4_12) ∧ (tX1_leastWithout l4_12 μ21 (fun r27 μ25 => (xIn r27) → xRan μ25 → (∀ μ29 : xM, μ29 = wi μ25 206 l2_1.toNat r27 → xRan μ29 → (J2 (l2_1 + 1) μ29))))))) ∧
  (¬ (μ14 178 l2_1.toNat) ≤ l5_13 → (0 ≤ l5_13 ∧ l5_13 < 24) ∧ (tX1_chainOf (μ14 (127 + l2_1.toNat) l5_13.toNat) μ14 (fun r36 μ34 => (xIn r36) → xRan μ34 → ((xIn l3_11) ∧ ((xIn (1 + r36)) ∧ (tX1_nimOf (μ34 (127 + l2_1.toNat) l5_13.toNat) μ34 (fun r43 μ41 => (xIn r43) → xRan μ41 → (J31 (max l3_11 (1 + r36)) (xOr l4_12 (xShl 1 r43)) (l5_13 + 1) μ41))))))))))))) ∧
  (¬ r8 = p1 → J2 (l2_1 + 1) μ6))))))))
def tX1_riseOf (p1 : Int) (μ : xM) (Q : Int → xM → Prop) : Prop := xRan μ → (xIn p1) → 
  tX1_isKind p1 μ (fun r3 μ1 => (r3 = 0 ∨ r3 = 1) → xRan μ1 → (((r3 = 0 → Q 0 μ1) ∧
  (r3 = 1 → (0 ≤ p1 ∧ p1 < 25) ∧ (Q (μ1 207 p1.toNat) μ1)))))
def tX1_lookDown (p1 : Int) (μ : xM) (Q : xM → Prop) : Prop := xRan μ → (xIn p1) → 
  xLoop1 0 μ (fun J2 l2_1 μ2 =>
  (xIn l2_1) ∧ (((24 ≤ l2_1 → Q μ2) ∧
  (¬ 24 ≤ l2_1 → tX2_lengthOf 39 l2_1 μ2 (fun r8 μ6 => (xIn r8) → xRan μ6 → (((r8 = p1 → xLoop2 p1 0 μ6 (fun J28 l3_11 l4_12 μ13 =>
  (0 ≤ l2_1 ∧ l2_1 < 24) ∧ ((xIn l4_12) ∧ ((((μ13 204 l2_1.toNat) ≤ l4_12 → (0 ≤ l2_1 ∧ l2_1 < 25) ∧ ((xIn l3_11) ∧ (∀ μ21 : xM, μ21 = wi μ13 207 l2_1.toNat l3_11 → xRan μ21 → (J2 (l2_1 + 1) μ21)))) ∧
  (¬ (μ13 204 l2_1.toNat) ≤ l4_12 → (0 ≤ l4_12 ∧ l4_12 < 25) ∧ ((((μ13 (180 + l2_1.toNat) l4_12.toNat) = 24 → J28 l3_11 (l4_12 + 1) μ13) ∧
  (¬ (μ13 (180 + l2_1.toNat) l4_12.toNat) = 24 → tX1_riseOf (μ13 (180 + l2_1.toNat) l4_12.toNat) μ13 (fun r30 μ28 => (xIn r30) → xRan μ28 → ((xIn l3_11) ∧ (J28 (min l3_11 r30) (l4_12 + 1) μ28)))))))))))) ∧
  (¬ r8 = p1 → J2 (l2_1 + 1) μ6))))))))
def tX1_settle_b89  (b1 : Int) (b2 : Int) (s0 : Nat) (s1 : Int) (s2 : Int) (μ : xM) (Q : xM → Prop) (J18 : Int → xM → Prop) (J26 : Int → xM → Prop) : Prop := xRan μ →
  (0 ≤ s1 ∧ s1 < 24) ∧ ((xIn s2) ∧ (∀ μ42 : xM, μ42 = wi μ s0 s1.toNat s2 → xRan μ42 → ((0 ≤ b1 ∧ b1 < 25) ∧ ((0 ≤ b2 ∧ b2 < 24) ∧ ((((μ42 (101 + b1.toNat) b2.toNat) < 0 → J26 (b2 + 1) μ42) ∧
  (¬ (μ42 (101 + b1.toNat) b2.toNat) < 0 → (xIn b1) ∧ ((xIn b2) ∧ (tX1_link b1 b2 μ42 (fun μ51 => xRan μ51 → (J26 (b2 + 1) μ51)))))))))))
def tX1_settle_b65  (b1 : Int) (b2 : Int) (s0 : Int) (μ : xM) (Q : xM → Prop) (J18 : Int → xM → Prop) (J26 : Int → xM → Prop) : Prop := xRan μ →
  (0 ≤ b1 ∧ b1 < 25) ∧ ((xIn s0) ∧ (((s0 = 0 → tX1_settle_b89 b1 b2 (101 + b1.toNat) b2 (-1) μ Q J18 J26) ∧
  (¬ s0 = 0 → (0 ≤ b2 ∧ b2 < 24) ∧ (tX1_settle_b89 b1 b2 (101 + b1.toNat) b2 (μ (75 + b1.toNat) b2.toNat) μ Q J18 J26)))))
def tX1_settle_b64  (b1 : Int) (b2 : Int) (μ : xM) (Q : xM → Prop) (J18 : Int → xM → Prop) (J26 : Int → xM → Prop) : Prop := xRan μ →
  tX1_settle_b65 b1 b2 0 μ Q J18 J26
def tX1_settle_b49  (b1 : Int) (b2 : Int) (μ : xM) (Q : xM → Prop) (J18 : Int → xM → Prop) (J26 : Int → xM → Prop) : Prop := xRan μ →
  (xIn b2) ∧ (tX2_isGood 39 b2 μ (fun r34 μ32 => (r34 = 0 ∨ r34 = 1) → xRan μ32 → (((r34 = 0 → tX1_settle_b64 b1 b2 μ32 Q J18 J26) ∧
  (r34 = 1 → tX1_settle_b65 b1 b2 1 μ32 Q J18 J26)))))
def tX1_settle  (μ : xM) (Q : xM → Prop) : Prop := xRan μ → 
  tJ7_fill_53178 178 25 0 μ (fun μ1 => xRan μ1 → (tJ7_fill_53178 204 24 0 μ1 (fun μ3 => xRan μ3 → (xLoop1 0 μ3 (fun J18 l1_5 μ6 =>
  (xIn l1_5) ∧ (((25 ≤ l1_5 → xLoop1 6 μ6 (fun J122 l1_10 μ11 =>
  (xIn l1_10) ∧ (((l1_10 < 0 → xLoop1 1 μ11 (fun J139 l1_15 μ16 =>
  (xIn l1_15) ∧ (((6 < l1_15 → Q μ16) ∧
  (¬ 6 < l1_15 → tX1_lookDown l1_15 μ16 (fun μ20 => xRan μ20 → (J139 (l1_15 + 1) μ20))))))) ∧
  (¬ l1_10 < 0 → tX1_lookUp l1_10 μ11 (fun μ22 => xRan μ22 → (J122 (l1_10 + (-1)) μ22))))))) ∧
  (¬ 25 ≤ l1_5 → xLoop1 0 μ6 (fun J26 l2_24 μ25 =>
  (xIn l2_24) ∧ (((24 ≤ l2_24 → J18 (l1_5 + 1) μ25) ∧
  (¬ 24 ≤ l2_24 → (xIn l1_5) ∧ (((l1_5 = 24 → tX1_settle_b49 l1_5 l2_24 μ25 Q J18 J26) ∧
  (¬ l1_5 = 24 → tX2_isGood 39 l1_5 μ25 (fun r57 μ55 => (r57 = 0 ∨ r57 = 1) → xRan μ55 → (((r57 = 0 → tX1_settle_b64 l1_5 l2_24 μ55 Q J18 J26) ∧
  (r57 = 1 → tX1_settle_b49 l1_5 l2_24 μ55 Q J18 J26)))))))))))))))))))
def tX1_weave  (μ : xM) (Q : xM → Prop) : Prop := xRan μ → 
  xLoop1 0 μ (fun J2 l1_1 μ2 =>
  (xIn l1_1) ∧ (((24 ≤ l1_1 → tX1_settle μ2 (fun μ6 => xRan μ6 → (Q μ6))) ∧
  (¬ 24 ≤ l1_1 → xLoop1 0 μ2 (fun J10 l2_8 μ9 =>
  (xIn l2_8) ∧ (((24 ≤ l2_8 → (xIn l1_1) ∧ (tX2_lengthOf 39 l1_1 μ9 (fun r16 μ14 => (xIn r16) → xRan μ14 → (((r16 ≠ 1 → (0 ≤ l1_1 ∧ l1_1 < 24) ∧ (∀ μ20 : xM, μ20 = wi μ14 (75 + 24) l1_1.toNat (-1) → xRan μ20 → (J2 (l1_1 + 1) μ20))) ∧
  (r16 = 1 → tX2_glyphOf 39 l1_1 0 μ14 (fun r25 μ23 => (xIn r25) → xRan μ23 → ((0 ≤ l1_1 ∧ l1_1 < 24) ∧ (∀ μ28 : xM, μ28 = wi μ23 (75 + 24) l1_1.toNat r25 → xRan μ28 → (J2 (l1_1 + 1) μ28)))))))))) ∧
  (¬ 24 ≤ l2_8 → (0 ≤ l2_8 ∧ l2_8 < 25) ∧ ((xIn l1_1) ∧ (tX1_letterBetween l2_8 l1_1 μ9 (fun r35 μ33 => (xIn r35) → xRan μ33 → ((0 ≤ l1_1 ∧ l1_1 < 24) ∧ (∀ μ38 : xM, μ38 = wi μ33 (75 + l2_8.toNat) l1_1.toNat r35 → xRan μ38 → (J10 (l2_8 + 1) μ38))))))))))))))
def tX1_letterOf (p1 : Int) (p2 : Int) (μ : xM) (Q : Int → xM → Prop) : Prop := xRan μ → (xIn p1) → (xIn p2) → 
  tX1_isKind p1 μ (fun r3 μ1 => (r3 = 0 ∨ r3 = 1) → xRan μ1 → (((r3 = 0 → Q (-1) μ1) ∧
  (r3 = 1 → tX1_isSpot p2 μ1 (fun r8 μ6 => (r8 = 0 ∨ r8 = 1) → xRan μ6 → (((r8 = 0 → Q (-1) μ6) ∧
  (r8 = 1 → (0 ≤ p1 ∧ p1 < 25) ∧ ((0 ≤ p2 ∧ p2 < 24) ∧ (Q (μ6 (101 + p1.toNat) p2.toNat) μ6))))))))))
def tX1_downs (p1 : Int) (μ : xM) (Q : Int → xM → Prop) : Prop := xRan μ → (xIn p1) → 
  tX1_isSpot p1 μ (fun r3 μ1 => (r3 = 0 ∨ r3 = 1) → xRan μ1 → (((r3 = 0 → Q 0 μ1) ∧
  (r3 = 1 → (0 ≤ p1 ∧ p1 < 24) ∧ (Q (μ1 204 p1.toNat) μ1)))))
def tX1_downOf (p1 : Int) (p2 : Int) (μ : xM) (Q : Int → xM → Prop) : Prop := xRan μ → (xIn p1) → (xIn p2) → 
  tX1_isSpot p1 μ (fun r3 μ1 => (r3 = 0 ∨ r3 = 1) → xRan μ1 → (((r3 = 0 → Q (-1) μ1) ∧
  (r3 = 1 → tX1_isKind p2 μ1 (fun r8 μ6 => (r8 = 0 ∨ r8 = 1) → xRan μ6 → (((r8 = 0 → Q (-1) μ6) ∧
  (r8 = 1 → (0 ≤ p1 ∧ p1 < 24) ∧ ((0 ≤ p2 ∧ p2 < 25) ∧ (Q (μ6 (180 + p1.toNat) p2.toNat) μ6))))))))))
def tX1_waysBy (p1 : Int) (p2 : Int) (μ : xM) (Q : Int → xM → Prop) : Prop := xRan μ → (xIn p1) → (xIn p2) → 
  xLoop2 0 0 μ (fun J5 l3_1 l4_2 μ3 =>
  tX1_ups p1 μ3 (fun r7 μ5 => (xIn r7) → xRan μ5 → ((xIn l4_2) ∧ (((r7 ≤ l4_2 → (xIn l3_1) ∧ (Q l3_1 μ5)) ∧
  (¬ r7 ≤ l4_2 → tX1_byOf p1 l4_2 μ5 (fun r14 μ12 => (xIn r14) → xRan μ12 → (((r14 ≠ p2 → J5 l3_1 (l4_2 + 1) μ12) ∧
  (r14 = p2 → J5 (l3_1 + 1) (l4_2 + 1) μ12))))))))))
def tX2_clear (o : Nat) (μ : xM) (Q : xM → Prop) : Prop := xRan μ → 
  ∀ μ1 : xM, μ1 = wi μ o 0 0 → xRan μ1 → (∀ μ4 : xM, μ4 = wi μ1 o 1 0 → xRan μ4 → (∀ μ7 : xM, μ7 = wi μ4 o 2 0 → xRan μ7 → (∀ μ10 : xM, μ10 = wi μ7 o 3 0 → xRan μ10 → (∀ μ13 : xM, μ13 = wi μ10 o 4 0 → xRan μ13 → (∀ μ16 : xM, μ16 = wi μ13 o 5 0 → xRan μ16 → (∀ μ19 : xM, μ19 = wi μ16 o 6 0 → xRan μ19 → (Q μ19)))))))
def tX2_copyFrom (o : Nat) (p1 : Nat) (μ : xM) (Q : xM → Prop) : Prop := xRan μ → 
  ∀ μ2 : xM, μ2 = wi μ o 0 (μ p1 0) → xRan μ2 → (∀ μ6 : xM, μ6 = wi μ2 o 1 (μ2 p1 1) → xRan μ6 → (∀ μ10 : xM, μ10 = wi μ6 o 2 (μ6 p1 2) → xRan μ10 → (∀ μ14 : xM, μ14 = wi μ10 o 3 (μ10 p1 3) → xRan μ14 → (∀ μ18 : xM, μ18 = wi μ14 o 4 (μ14 p1 4) → xRan μ18 → (∀ μ22 : xM, μ22 = wi μ18 o 5 (μ18 p1 5) → xRan μ22 → (∀ μ26 : xM, μ26 = wi μ22 o 6 (μ22 p1 6) → xRan μ26 → (xLoop1 0 μ26 (fun J58 l2_29 μ30 =>
  (xIn l2_29) ∧ (((24 ≤ l2_29 → ∀ μ34 : xM, μ34 = cpM μ30 (p1 + 30) (o + 30) 8 → xRan μ34 → (∀ μ37 : xM, μ37 = cpM μ34 (p1 + 31) (o + 31) 6 → xRan μ37 → (∀ μ40 : xM, μ40 = cpM μ37 (p1 + 32) (o + 32) 6 → xRan μ40 → (∀ μ43 : xM, μ43 = cpM μ40 (p1 + 33) (o + 33) 6 → xRan μ43 → (Q μ43))))) ∧
  (¬ 24 ≤ l2_29 → (0 ≤ l2_29 ∧ l2_29 < 24) ∧ (∀ μ48 : xM, μ48 = wi μ30 (o + 1) l2_29.toNat (μ30 (p1 + 1) l2_29.toNat) → xRan μ48 → (∀ μ52 : xM, μ52 = wi μ48 (o + 2) l2_29.toNat (μ48 (p1 + 2) l2_29.toNat) → xRan μ52 → ((μ52 (p1 + 29) l2_29.toNat = 0 ∨ μ52 (p1 + 29) l2_29.toNat = 1) ∧ (∀ μ57 : xM, μ57 = wi μ52 (o + 29) l2_29.toNat (μ52 (p1 + 29) l2_29.toNat) → xRan μ57 → ((0 ≤ l2_29 ∧ l2_29 < 25) ∧ (∀ μ61 : xM, μ61 = cpM μ57 (p1 + 4 + l2_29.toNat) (o + 4 + l2_29.toNat) 6 → xRan μ61 → (J58 (l2_29 + 1) μ61))))))))))))))))))
def tX2_isOpen (o : Nat) (μ : xM) (Q : Int → xM → Prop) : Prop := xRan μ → 
  (((μ o 0) ≤ 0 → Q 0 μ) ∧
  (¬ (μ o 0) ≤ 0 → Q 1 μ))
def tX2_isBarred (o : Nat) (p1 : Int) (μ : xM) (Q : Int → xM → Prop) : Prop := xRan μ → (xIn p1) → 
  tX2_isWord o p1 μ (fun r3 μ1 => (r3 = 0 ∨ r3 = 1) → xRan μ1 → (((r3 = 0 → Q 0 μ1) ∧
  (r3 = 1 → (0 ≤ p1 ∧ p1 < 24) ∧ ((((μ1 (o + 29) p1.toNat) = 0 → Q 0 μ1) ∧
  (¬ (μ1 (o + 29) p1.toNat) = 0 → Q 1 μ1)))))))
def tX2_valueOf (o : Nat) (p1 : Int) (μ : xM) (Q : Int → xM → Prop) : Prop := xRan μ → (xIn p1) → 
  tX2_isWord o p1 μ (fun r3 μ1 => (r3 = 0 ∨ r3 = 1) → xRan μ1 → (((r3 = 0 → Q 0 μ1) ∧
  (r3 = 1 → (0 ≤ p1 ∧ p1 < 24) ∧ (Q (μ1 (o + 2) p1.toNat) μ1)))))
def tX2_glyphsOf (o : Nat) (p1 : Int) (μ : xM) (Q : Nat → xM → Prop) : Prop := xRan μ → (xIn p1) → 
  tX2_isWord o p1 μ (fun r3 μ1 => (r3 = 0 ∨ r3 = 1) → xRan μ1 → (((r3 = 0 → Q (o + 4 + 24) μ1) ∧
  (r3 = 1 → (0 ≤ p1 ∧ p1 < 25) ∧ (Q (o + 4 + p1.toNat) μ1)))))
def tX2_seenOf (o : Nat) (p1 : Int) (μ : xM) (Q : Int → xM → Prop) : Prop := xRan μ → (xIn p1) → 
  ((p1 < 0 → Q (-1) μ) ∧
  (¬ p1 < 0 → (((μ o 6) ≤ p1 → Q (-1) μ) ∧
  (¬ (μ o 6) ≤ p1 → ((6 ≤ p1 → Q (-1) μ) ∧
  (¬ 6 ≤ p1 → (0 ≤ p1 ∧ p1 < 6) ∧ (Q (μ (o + 33) p1.toNat) μ)))))))
def tX2_setBarred (o : Nat) (p1 : Int) (p2 : Int) (μ : xM) (Q : xM → Prop) : Prop := xRan μ → (xIn p1) → (p2 = 0 ∨ p2 = 1) → 
  tX2_isWord o p1 μ (fun r3 μ1 => (r3 = 0 ∨ r3 = 1) → xRan μ1 → (((r3 = 0 → Q μ1) ∧
  (r3 = 1 → (0 ≤ p1 ∧ p1 < 24) ∧ (∀ μ7 : xM, μ7 = wi μ1 (o + 29) p1.toNat p2 → xRan μ7 → (Q μ7))))))
def tX2_setValue (o : Nat) (p1 : Int) (p2 : Int) (μ : xM) (Q : xM → Prop) : Prop := xRan μ → (xIn p1) → (xIn p2) → 
  tX2_isWord o p1 μ (fun r3 μ1 => (r3 = 0 ∨ r3 = 1) → xRan μ1 → (((r3 = 0 → Q μ1) ∧
  (r3 = 1 → (0 ≤ p1 ∧ p1 < 24) ∧ (∀ μ7 : xM, μ7 = wi μ1 (o + 2) p1.toNat p2 → xRan μ7 → (Q μ7))))))
def tX2_setFirst (o : Nat) (p1 : Int) (p2 : Int) (μ : xM) (Q : xM → Prop) : Prop := xRan μ → (xIn p1) → (xIn p2) → 
  tX2_isGuest o p1 μ (fun r3 μ1 => (r3 = 0 ∨ r3 = 1) → xRan μ1 → (((r3 = 0 → Q μ1) ∧
  (r3 = 1 → (0 ≤ p1 ∧ p1 < 8) ∧ (∀ μ7 : xM, μ7 = wi μ1 (o + 30) p1.toNat p2 → xRan μ7 → (Q μ7))))))
def tX2_addWord (o : Nat) (p1 : Nat) (p1n : Nat) (p2 : Int) (p3 : Int) (μ : xM) (Q : xM → Prop) : Prop := xRan μ → (xIn p2) → (xIn p3) → 
  ((24 ≤ (μ o 3) → Q μ) ∧
  (¬ 24 ≤ (μ o 3) → ((p2 < 0 → Q μ) ∧
  (¬ p2 < 0 → (((p1n : Int) < p3 → Q μ) ∧
  (¬ (p1n : Int) < p3 → (xIn (p3 - p2)) ∧ (((6 < (p3 - p2) → Q μ) ∧
  (¬ 6 < (p3 - p2) → (0 ≤ (μ o 3) ∧ (μ o 3) < 25) ∧ (tJ7_fill_53178 (o + 4 + (μ o 3).toNat) 6 (-1) μ (fun μ9 => xRan μ9 → (xLoop1 p2 μ9 (fun J43 l4_11 μ12 =>
  (xIn l4_11) ∧ (((p3 ≤ l4_11 → (0 ≤ (μ12 o 3) ∧ (μ12 o 3) < 24) ∧ ((xIn (p3 - p2)) ∧ (∀ μ19 : xM, μ19 = wi μ12 (o + 1) ((μ12 o 3).toNat) (p3 - p2) → xRan μ19 → ((0 ≤ (μ19 o 3) ∧ (μ19 o 3) < 24) ∧ (∀ μ24 : xM, μ24 = wi μ19 (o + 29) ((μ19 o 3).toNat) 0 → xRan μ24 → ((xIn ((μ24 o 3) + 1)) ∧ (∀ μ29 : xM, μ29 = wi μ24 o 3 ((μ24 o 3) + 1) → xRan μ29 → (Q μ29)))))))) ∧
  (¬ p3 ≤ l4_11 → (0 ≤ (μ12 o 3) ∧ (μ12 o 3) < 25) ∧ ((0 ≤ l4_11 ∧ l4_11 < p1n) ∧ ((0 ≤ (l4_11 - p2) ∧ (l4_11 - p2) < 6) ∧ ((xIn ((μ12 p1 l4_11.toNat) - 97)) ∧ (∀ μ38 : xM, μ38 = wi μ12 (o + 4 + (μ12 o 3).toNat) ((l4_11 - p2).toNat) ((μ12 p1 l4_11.toNat) - 97) → xRan μ38 → (J43 (l4_11 + 1) μ38)))))))))))))))))))))
def tX2_addGuest (o : Nat) (p1 : Int) (μ : xM) (Q : xM → Prop) : Prop := xRan μ → (xIn p1) → 
  ((8 ≤ (μ o 4) → Q μ) ∧
  (¬ 8 ≤ (μ o 4) → (0 ≤ (μ o 4) ∧ (μ o 4) < 8) ∧ (∀ μ5 : xM, μ5 = wi μ (o + 30) ((μ o 4).toNat) p1 → xRan μ5 → ((xIn ((μ5 o 4) + 1)) ∧ (∀ μ10 : xM, μ10 = wi μ5 o 4 ((μ5 o 4) + 1) → xRan μ10 → (Q μ10))))))
def tX2_addLikely (o : Nat) (p1 : Int) (p2 : Int) (μ : xM) (Q : xM → Prop) : Prop := xRan μ → (xIn p1) → (xIn p2) → 
  ((6 ≤ (μ o 5) → Q μ) ∧
  (¬ 6 ≤ (μ o 5) → (0 ≤ (μ o 5) ∧ (μ o 5) < 6) ∧ (∀ μ5 : xM, μ5 = wi μ (o + 31) ((μ o 5).toNat) p1 → xRan μ5 → ((0 ≤ (μ5 o 5) ∧ (μ5 o 5) < 6) ∧ (∀ μ10 : xM, μ10 = wi μ5 (o + 32) ((μ5 o 5).toNat) p2 → xRan μ10 → ((xIn ((μ10 o 5) + 1)) ∧ (∀ μ15 : xM, μ15 = wi μ10 o 5 ((μ10 o 5) + 1) → xRan μ15 → (Q μ15))))))))
def tX2_addSeen (o : Nat) (p1 : Int) (μ : xM) (Q : xM → Prop) : Prop := xRan μ → (xIn p1) → 
  ((6 ≤ (μ o 6) → Q μ) ∧
  (¬ 6 ≤ (μ o 6) → (0 ≤ (μ o 6) ∧ (μ o 6) < 6) ∧ (∀ μ5 : xM, μ5 = wi μ (o + 33) ((μ o 6).toNat) p1 → xRan μ5 → ((xIn ((μ5 o 6) + 1)) ∧ (∀ μ10 : xM, μ10 = wi μ5 o 6 ((μ5 o 6) + 1) → xRan μ10 → (Q μ10))))))
def tX3_farOf (p1 : Int) (μ : xM) (Q : Int → xM → Prop) : Prop := xRan μ → (xIn p1) → 
  ((p1 < 0 → Q (-1) μ) ∧
  (¬ p1 < 0 → ((24 ≤ p1 → Q (-1) μ) ∧
  (¬ 24 ≤ p1 → (0 ≤ p1 ∧ p1 < 24) ∧ (Q (μ 209 p1.toNat) μ)))))
def tX3_isRung (p1 : Int) (p2 : Int) (μ : xM) (Q : Int → xM → Prop) : Prop := xRan μ → (xIn p1) → (xIn p2) → 
  tX2_isWord 39 p2 μ (fun r3 μ1 => (r3 = 0 ∨ r3 = 1) → xRan μ1 → (((r3 = 0 → Q 0 μ1) ∧
  (r3 = 1 → tX1_letterOf p1 p2 μ1 (fun r8 μ6 => (xIn r8) → xRan μ6 → (((0 ≤ r8 → Q 1 μ6) ∧
  (¬ 0 ≤ r8 → tX1_letterOf p2 p1 μ6 (fun r13 μ11 => (xIn r13) → xRan μ11 → (((r13 < 0 → Q 0 μ11) ∧
  (¬ r13 < 0 → Q 1 μ11))))))))))))
def tX3_measure (p1 : Int) (μ : xM) (Q : xM → Prop) : Prop := xRan μ → (xIn p1) → 
  tJ7_fill_53178 209 24 (-1) μ (fun μ1 => xRan μ1 → (tX2_isGood 39 p1 μ1 (fun r5 μ3 => (r5 = 0 ∨ r5 = 1) → xRan μ3 → (((r5 = 1 → (0 ≤ p1 ∧ p1 < 24) ∧ (∀ μ9 : xM, μ9 = wi μ3 209 p1.toNat 0 → xRan μ9 → (∀ μ12 : xM, μ12 = wi μ9 210 0 p1 → xRan μ12 → (xLoop2 1 0 μ12 (fun J38 l2_15 l3_16 μ17 =>
  (xIn l3_16) ∧ ((xIn l2_15) ∧ (((l2_15 ≤ l3_16 → Q μ17) ∧
  (¬ l2_15 ≤ l3_16 → ((24 ≤ l3_16 → Q μ17) ∧
  (¬ 24 ≤ l3_16 → (0 ≤ l3_16 ∧ l3_16 < 24) ∧ (xLoop2 l2_15 0 μ17 (fun J60 l2_25 l5_26 μ27 =>
  (xIn l5_26) ∧ ((((μ27 39 3) ≤ l5_26 → J38 l2_25 (l3_16 + 1) μ27) ∧
  (¬ (μ27 39 3) ≤ l5_26 → tX3_farOf l5_26 μ27 (fun r34 μ32 => (xIn r34) → xRan μ32 → (((0 ≤ r34 → J60 l2_25 (l5_26 + 1) μ32) ∧
  (¬ 0 ≤ r34 → tX3_isRung (μ17 210 l3_16.toNat) l5_26 μ32 (fun r39 μ37 => (r39 = 0 ∨ r39 = 1) → xRan μ37 → (((r39 = 0 → J60 l2_25 (l5_26 + 1) μ37) ∧
  (r39 = 1 → (xIn l2_25) ∧ (((24 ≤ l2_25 → J60 l2_25 (l5_26 + 1) μ37) ∧
  (¬ 24 ≤ l2_25 → tX3_farOf (μ17 210 l3_16.toNat) μ37 (fun r46 μ44 => (xIn r46) → xRan μ44 → ((0 ≤ l5_26 ∧ l5_26 < 24) ∧ ((xIn (r46 + 1)) ∧ (∀ μ50 : xM, μ50 = wi μ44 209 l5_26.toNat (r46 + 1) → xRan μ50 → ((0 ≤ l2_25 ∧ l2_25 < 24) ∧ (∀ μ54 : xM, μ54 = wi μ50 210 l2_25.toNat l5_26 → xRan μ54 → (J60 (l2_25 + 1) (l5_26 + 1) μ54)))))))))))))))))))))))))))))))))) ∧
  (r5 = 0 → Q μ3))))))
def tX3_nearer (p1 : Int) (μ : xM) (Q : Int → xM → Prop) : Prop := xRan μ → (xIn p1) → 
  xLoop1 0 μ (fun J2 l2_1 μ2 =>
  (xIn l2_1) ∧ ((((μ2 39 3) ≤ l2_1 → Q p1 μ2) ∧
  (¬ (μ2 39 3) ≤ l2_1 → tX3_isRung p1 l2_1 μ2 (fun r9 μ7 => (r9 = 0 ∨ r9 = 1) → xRan μ7 → (((r9 = 0 → J2 (l2_1 + 1) μ7) ∧
  (r9 = 1 → tX3_farOf l2_1 μ7 (fun r14 μ12 => (xIn r14) → xRan μ12 → (tX3_farOf p1 μ12 (fun r18 μ16 => (xIn r18) → xRan μ16 → ((xIn (r18 - 1)) ∧ (((r14 ≠ (r18 - 1) → J2 (l2_1 + 1) μ16) ∧
  (r14 = (r18 - 1) → Q l2_1 μ16)))))))))))))))
def tX3_after (p1 : Int) (p2 : Int) (μ : xM) (Q : Int → xM → Prop) : Prop := xRan μ → (xIn p1) → (xIn p2) → 
  xLoop2 p1 0 μ (fun J5 l3_1 l4_2 μ3 =>
  (xIn l4_2) ∧ (((p2 ≤ l4_2 → (xIn l3_1) ∧ (Q l3_1 μ3)) ∧
  (¬ p2 ≤ l4_2 → ((24 ≤ l4_2 → (xIn l3_1) ∧ (Q l3_1 μ3)) ∧
  (¬ 24 ≤ l4_2 → (xIn l3_1) ∧ (tX3_nearer l3_1 μ3 (fun r13 μ11 => (xIn r13) → xRan μ11 → (J5 r13 (l4_2 + 1) μ11)))))))))
def tX4_begin (o : Nat) (p1 : Int) (μ : xM) (Q : xM → Prop) : Prop := xRan μ → (xIn p1) → 
  ∀ μ1 : xM, μ1 = wi μ o 0 p1 → xRan μ1 → (∀ μ4 : xM, μ4 = wi μ1 o 1 0 → xRan μ4 → (∀ μ7 : xM, μ7 = wi μ4 o 2 0 → xRan μ7 → (tJ7_fill_53178 (o + 1) 3 24 μ7 (fun μ10 => xRan μ10 → (Q μ10)))))
def tX4_copyFrom (o : Nat) (p1 : Nat) (μ : xM) (Q : xM → Prop) : Prop := xRan μ → 
  ∀ μ2 : xM, μ2 = wi μ o 0 (μ p1 0) → xRan μ2 → (∀ μ6 : xM, μ6 = wi μ2 o 1 (μ2 p1 1) → xRan μ6 → (∀ μ10 : xM, μ10 = wi μ6 o 2 (μ6 p1 2) → xRan μ10 → (∀ μ13 : xM, μ13 = cpM μ10 (p1 + 1) (o + 1) 3 → xRan μ13 → (Q μ13))))
def tX4_sitDown (o : Nat) (p1 : Int) (p2 : Int) (μ : xM) (Q : xM → Prop) : Prop := xRan μ → (xIn p1) → (xIn p2) → 
  ((p1 < 0 → Q μ) ∧
  (¬ p1 < 0 → ((3 ≤ p1 → Q μ) ∧
  (¬ 3 ≤ p1 → (0 ≤ p1 ∧ p1 < 3) ∧ (∀ μ4 : xM, μ4 = wi μ (o + 1) p1.toNat p2 → xRan μ4 → (∀ μ9 : xM, μ9 = wi μ4 o 2 (xOr (μ4 o 2) (xShl 1 (μ4 o 1))) → xRan μ9 → ((xIn ((μ9 o 1) + 1)) ∧ (∀ μ14 : xM, μ14 = wi μ9 o 1 ((μ9 o 1) + 1) → xRan μ14 → (Q μ14)))))))))
def tX4_leaveStanding (o : Nat) (μ : xM) (Q : xM → Prop) : Prop := xRan μ → 
  (xIn ((μ o 1) + 1)) ∧ (∀ μ3 : xM, μ3 = wi μ o 1 ((μ o 1) + 1) → xRan μ3 → (Q μ3))
def tX4_standingBits (o : Nat) (μ : xM) (Q : Int → xM → Prop) : Prop := xRan μ → 
  Q (xAnd ((xShl 1 (μ o 1)) - 1) (xXor (μ o 2) (-1))) μ
def tX4_seatedGuest (o : Nat) (p1 : Int) (μ : xM) (Q : Int → xM → Prop) : Prop := xRan μ → (xIn p1) → 
  xLoop2 0 0 μ (fun J4 l2_1 l3_2 μ3 =>
  (xIn l3_2) ∧ ((((μ3 o 1) ≤ l3_2 → Q (-1) μ3) ∧
  (¬ (μ3 o 1) ≤ l3_2 → (((xAnd (xShr (μ3 o 2) l3_2) 1) ≠ 1 → J4 l2_1 (l3_2 + 1) μ3) ∧
  ((xAnd (xShr (μ3 o 2) l3_2) 1) = 1 → (xIn l2_1) ∧ (((l2_1 ≠ p1 → J4 (l2_1 + 1) (l3_2 + 1) μ3) ∧
  (l2_1 = p1 → Q l3_2 μ3)))))))))
def tX5_appendFour (p1 : Int) (μ : xM) (Q : xM → Prop) : Prop := xRan μ → (xIn p1) → 
  xLoop1 24 μ (fun J3 l2_1 μ2 =>
  (xIn l2_1) ∧ (((l2_1 < 0 → Q μ2) ∧
  (¬ l2_1 < 0 → ((900 ≤ (μ2 35 0) → Q μ2) ∧
  (¬ 900 ≤ (μ2 35 0) → (0 ≤ (μ2 35 0) ∧ (μ2 35 0) < 900) ∧ (∀ μ10 : xM, μ10 = wi μ2 36 ((μ2 35 0).toNat) (xAnd (xUshr p1 l2_1) 255) → xRan μ10 → ((xIn ((μ10 35 0) + 1)) ∧ (∀ μ15 : xM, μ15 = wi μ10 35 0 ((μ10 35 0) + 1) → xRan μ15 → (J3 (l2_1 + (-8)) μ15))))))))))
def tX5_append (p1 : Int) (p2 : Int) (p3 : Int) (p4 : Int) (p5 : Int) (μ : xM) (Q : Int → xM → Prop) : Prop := xRan μ → (xIn p1) → (xIn p2) → (xIn p3) → (xIn p4) → (xIn p5) → 
  (xIn ((μ 35 0) + 20)) ∧ (((((μ 35 0) + 20) ≤ 900 → tX5_appendFour p1 μ (fun μ4 => xRan μ4 → (tX5_appendFour p2 μ4 (fun μ6 => xRan μ6 → (tX5_appendFour p3 μ6 (fun μ8 => xRan μ8 → (tX5_appendFour p4 μ8 (fun μ10 => xRan μ10 → (tX5_appendFour p5 μ10 (fun μ12 => xRan μ12 → (Q (μ12 35 0) μ12))))))))))) ∧
  (¬ ((μ 35 0) + 20) ≤ 900 → Q (-1) μ)))
def tX5_byteAt (p1 : Int) (μ : xM) (Q : Int → xM → Prop) : Prop := xRan μ → (xIn p1) → 
  ((p1 < 0 → Q (-1) μ) ∧
  (¬ p1 < 0 → ((900 ≤ p1 → Q (-1) μ) ∧
  (¬ 900 ≤ p1 → (0 ≤ p1 ∧ p1 < 900) ∧ (Q (μ 36 p1.toNat) μ)))))
def tX5_runEnd (p1 : Int) (p2 : Int) (μ : xM) (Q : Int → xM → Prop) : Prop := xRan μ → (xIn p1) → (xIn p2) → 
  xLoop1 (μ 35 11) μ (fun J5 l3_2 μ3 =>
  (xIn l3_2) ∧ ((((μ3 35 9) ≤ l3_2 → Q l3_2 μ3) ∧
  (¬ (μ3 35 9) ≤ l3_2 → tX5_byteAt l3_2 μ3 (fun r10 μ8 => (xIn r10) → xRan μ8 → (((r10 < p1 → Q l3_2 μ8) ∧
  (¬ r10 < p1 → tX5_byteAt l3_2 μ8 (fun r15 μ13 => (xIn r15) → xRan μ13 → (((p2 < r15 → Q l3_2 μ13) ∧
  (¬ p2 < r15 → J5 (l3_2 + 1) μ13))))))))))))
def tX5_next_b169  (b1 : Int) (μ : xM) (Q : xM → Prop)  : Prop := xRan μ →
  (xIn b1) ∧ (((b1 < 48 → ∀ μ28 : xM, μ28 = wi μ 35 10 5 → xRan μ28 → (Q μ28)) ∧
  (¬ b1 < 48 → ((57 < b1 → ∀ μ32 : xM, μ32 = wi μ 35 10 5 → xRan μ32 → (Q μ32)) ∧
  (¬ 57 < b1 → tX5_runEnd 48 57 μ (fun r37 μ35 => (xIn r37) → xRan μ35 → (∀ μ39 : xM, μ39 = wi μ35 35 12 r37 → xRan μ39 → ((xIn ((μ39 35 12) - (μ39 35 11))) ∧ (((3 < ((μ39 35 12) - (μ39 35 11)) → ∀ μ46 : xM, μ46 = wi μ39 35 10 5 → xRan μ46 → (Q μ46)) ∧
  (¬ 3 < ((μ39 35 12) - (μ39 35 11)) → ∀ μ49 : xM, μ49 = wi μ39 35 10 2 → xRan μ49 → (Q μ49))))))))))))
def tX5_next_b45   (μ : xM) (Q : xM → Prop)  : Prop := xRan μ →
  (xIn ((μ 35 11) + 1)) ∧ (∀ μ12 : xM, μ12 = wi μ 35 12 ((μ 35 11) + 1) → xRan μ12 → (tX5_byteAt (μ12 35 11) μ12 (fun r18 μ16 => (xIn r18) → xRan μ16 → ((((μ16 35 11) < (μ16 35 9) → ((r18 ≠ 59 → ((r18 ≠ 44 → ((r18 < 97 → tX5_next_b169 r18 μ16 Q ) ∧
  (¬ r18 < 97 → ((122 < r18 → tX5_next_b169 r18 μ16 Q ) ∧
  (¬ 122 < r18 → tX5_runEnd 97 122 μ16 (fun r55 μ53 => (xIn r55) → xRan μ53 → (∀ μ57 : xM, μ57 = wi μ53 35 12 r55 → xRan μ57 → ((xIn ((μ57 35 12) - (μ57 35 11))) ∧ (((8 < ((μ57 35 12) - (μ57 35 11)) → ∀ μ64 : xM, μ64 = wi μ57 35 10 5 → xRan μ64 → (Q μ64)) ∧
  (¬ 8 < ((μ57 35 12) - (μ57 35 11)) → ∀ μ67 : xM, μ67 = wi μ57 35 10 1 → xRan μ67 → (Q μ67)))))))))))) ∧
  (r18 = 44 → ∀ μ70 : xM, μ70 = wi μ16 35 10 4 → xRan μ70 → (Q μ70)))) ∧
  (r18 = 59 → ∀ μ73 : xM, μ73 = wi μ16 35 10 3 → xRan μ73 → (Q μ73)))) ∧
  (¬ (μ16 35 11) < (μ16 35 9) → ∀ μ77 : xM, μ77 = wi μ16 35 12 (μ16 35 11) → xRan μ77 → (∀ μ80 : xM, μ80 = wi μ77 35 10 0 → xRan μ80 → (Q μ80))))))))
def tX5_next  (μ : xM) (Q : xM → Prop) : Prop := xRan μ → 
  ∀ μ2 : xM, μ2 = wi μ 35 11 (μ 35 12) → xRan μ2 → (xLoop0 μ2 (fun J8 μ5 =>
  (((μ5 35 9) ≤ (μ5 35 11) → tX5_next_b45 μ5 Q ) ∧
  (¬ (μ5 35 9) ≤ (μ5 35 11) → tX5_byteAt (μ5 35 11) μ5 (fun r86 μ84 => (xIn r86) → xRan μ84 → (((r86 ≠ 32 → tX5_next_b45 μ84 Q ) ∧
  (r86 = 32 → (xIn ((μ84 35 11) + 1)) ∧ (∀ μ91 : xM, μ91 = wi μ84 35 11 ((μ84 35 11) + 1) → xRan μ91 → (J8 μ91))))))))))
def tX5_reads (p1 : Nat) (μ : xM) (Q : Int → xM → Prop) : Prop := xRan μ → 
  (((μ 35 10) ≠ 1 → Q 0 μ) ∧
  ((μ 35 10) = 1 → (xIn ((μ 35 12) - (μ 35 11))) ∧ (((((μ 35 12) - (μ 35 11)) = (sLen p1) → xLoop1 0 μ (fun J28 l2_7 μ8 =>
  (xIn l2_7) ∧ ((((sLen p1) ≤ l2_7 → Q 1 μ8) ∧
  (¬ (sLen p1) ≤ l2_7 → (xIn ((μ8 35 11) + l2_7)) ∧ (tX5_byteAt ((μ8 35 11) + l2_7) μ8 (fun r16 μ14 => (xIn r16) → xRan μ14 → ((0 ≤ l2_7 ∧ l2_7 < sLen p1) ∧ (((r16 = (sChr p1 l2_7) → J28 (l2_7 + 1) μ14) ∧
  (¬ r16 = (sChr p1 l2_7) → Q 0 μ14))))))))))) ∧
  (¬ ((μ 35 12) - (μ 35 11)) = (sLen p1) → Q 0 μ)))))
def tX5_fails (p1 : Int) (μ : xM) (Q : Int → xM → Prop) : Prop := xRan μ → (xIn p1) → 
  ∀ μ1 : xM, μ1 = wi μ 35 1 p1 → xRan μ1 → (∀ μ5 : xM, μ5 = wi μ1 35 2 (μ1 35 11) → xRan μ5 → (Q 0 μ5))
def tX5_readKey (p1 : Nat) (μ : xM) (Q : Int → xM → Prop) : Prop := xRan μ → 
  tX5_reads p1 μ (fun r3 μ1 => (r3 = 0 ∨ r3 = 1) → xRan μ1 → (((r3 = 1 → tX5_next μ1 (fun μ6 => xRan μ6 → (Q 1 μ6))) ∧
  (r3 = 0 → tX5_fails 1 μ1 (fun r10 μ8 => (r10 = 0 ∨ r10 = 1) → xRan μ8 → (Q r10 μ8))))))
def tX5_readWhole (p1 : Int) (p2 : Int) (μ : xM) (Q : Int → xM → Prop) : Prop := xRan μ → (xIn p1) → (xIn p2) → 
  (((μ 35 10) = 2 → ∀ μ3 : xM, μ3 = wi μ 35 13 0 → xRan μ3 → (xLoop1 (μ3 35 11) μ3 (fun J24 l3_7 μ8 =>
  (xIn l3_7) ∧ ((((μ8 35 12) ≤ l3_7 → (((μ8 35 13) < p1 → tX5_fails 4 μ8 (fun r17 μ15 => (r17 = 0 ∨ r17 = 1) → xRan μ15 → (Q r17 μ15))) ∧
  (¬ (μ8 35 13) < p1 → (((μ8 35 13) ≤ p2 → tX5_next μ8 (fun μ21 => xRan μ21 → (Q 1 μ21))) ∧
  (¬ (μ8 35 13) ≤ p2 → tX5_fails 4 μ8 (fun r25 μ23 => (r25 = 0 ∨ r25 = 1) → xRan μ23 → (Q r25 μ23))))))) ∧
  (¬ (μ8 35 12) ≤ l3_7 → tX5_byteAt l3_7 μ8 (fun r30 μ28 => (xIn r30) → xRan μ28 → ((xIn ((((μ8 35 13) * 10) + r30) - 48)) ∧ (∀ μ33 : xM, μ33 = wi μ28 35 13 ((((μ8 35 13) * 10) + r30) - 48) → xRan μ33 → (J24 (l3_7 + 1) μ33)))))))))) ∧
  (¬ (μ 35 10) = 2 → tX5_fails 1 μ (fun r38 μ36 => (r38 = 0 ∨ r38 = 1) → xRan μ36 → (Q r38 μ36))))
def tX5_readManner  (μ : xM) (Q : Int → xM → Prop) : Prop := xRan μ → 
  tX5_reads 4 μ (fun r3 μ1 => (r3 = 0 ∨ r3 = 1) → xRan μ1 → (((r3 = 0 → tX5_reads 5 μ1 (fun r8 μ6 => (r8 = 0 ∨ r8 = 1) → xRan μ6 → (((r8 = 0 → tX5_reads 6 μ6 (fun r13 μ11 => (r13 = 0 ∨ r13 = 1) → xRan μ11 → (((r13 = 0 → tX5_fails 1 μ11 (fun r18 μ16 => (r18 = 0 ∨ r18 = 1) → xRan μ16 → (Q r18 μ16))) ∧
  (r13 = 1 → ∀ μ20 : xM, μ20 = wi μ11 1 2 2 → xRan μ20 → (tX5_next μ20 (fun μ23 => xRan μ23 → (Q 1 μ23)))))))) ∧
  (r8 = 1 → ∀ μ25 : xM, μ25 = wi μ6 1 2 1 → xRan μ25 → (tX5_next μ25 (fun μ28 => xRan μ28 → (Q 1 μ28)))))))) ∧
  (r3 = 1 → ∀ μ30 : xM, μ30 = wi μ1 1 2 0 → xRan μ30 → (tX5_next μ30 (fun μ33 => xRan μ33 → (Q 1 μ33)))))))
def tX5_readHouse  (μ : xM) (Q : Int → xM → Prop) : Prop := xRan μ → 
  (((μ 35 7) = 0 → ∀ μ3 : xM, μ3 = wi μ 35 7 1 → xRan μ3 → (tX5_next μ3 (fun μ6 => xRan μ6 → (tX5_readKey 1 μ6 (fun r10 μ8 => (r10 = 0 ∨ r10 = 1) → xRan μ8 → (((r10 = 0 → Q 0 μ8) ∧
  (r10 = 1 → tX5_readWhole 1 3 μ8 (fun r15 μ13 => (r15 = 0 ∨ r15 = 1) → xRan μ13 → (((r15 = 1 → ∀ μ19 : xM, μ19 = wi μ13 1 0 (μ13 35 13) → xRan μ19 → (tX5_readKey 2 μ19 (fun r24 μ22 => (r24 = 0 ∨ r24 = 1) → xRan μ22 → (((r24 = 0 → Q 0 μ22) ∧
  (r24 = 1 → tX5_readWhole 1 6 μ22 (fun r29 μ27 => (r29 = 0 ∨ r29 = 1) → xRan μ27 → (((r29 = 1 → ∀ μ33 : xM, μ33 = wi μ27 1 1 (μ27 35 13) → xRan μ33 → (tX5_readKey 3 μ33 (fun r38 μ36 => (r38 = 0 ∨ r38 = 1) → xRan μ36 → (((r38 = 0 → Q 0 μ36) ∧
  (r38 = 1 → tX5_readManner μ36 (fun r43 μ41 => (r43 = 0 ∨ r43 = 1) → xRan μ41 → (((r43 = 0 → Q 0 μ41) ∧
  (r43 = 1 → Q 1 μ41)))))))))) ∧
  (r29 = 0 → Q 0 μ27)))))))))) ∧
  (r15 = 0 → Q 0 μ13)))))))))))) ∧
  (¬ (μ 35 7) = 0 → tX5_fails 3 μ (fun r48 μ46 => (r48 = 0 ∨ r48 = 1) → xRan μ46 → (Q r48 μ46))))
def tX5_isWordHere (p1 : Int) (μ : xM) (Q : Int → xM → Prop) : Prop := xRan μ → (xIn p1) → 
  tX2_lengthOf 1 p1 μ (fun r3 μ1 => (xIn r3) → xRan μ1 → ((xIn ((μ1 35 12) - (μ1 35 11))) ∧ (((r3 = ((μ1 35 12) - (μ1 35 11)) → xLoop1 (μ1 35 11) μ1 (fun J27 l2_10 μ11 =>
  (xIn l2_10) ∧ ((((μ11 35 12) ≤ l2_10 → Q 1 μ11) ∧
  (¬ (μ11 35 12) ≤ l2_10 → (xIn (l2_10 - (μ11 35 11))) ∧ (tX2_glyphOf 1 p1 (l2_10 - (μ11 35 11)) μ11 (fun r20 μ18 => (xIn r20) → xRan μ18 → (tX5_byteAt l2_10 μ18 (fun r24 μ22 => (xIn r24) → xRan μ22 → ((xIn (r24 - 97)) ∧ (((r20 = (r24 - 97) → J27 (l2_10 + 1) μ22) ∧
  (¬ r20 = (r24 - 97) → Q 0 μ22))))))))))))) ∧
  (¬ r3 = ((μ1 35 12) - (μ1 35 11)) → Q 0 μ1)))))
def tX5_toldWord  (μ : xM) (Q : Int → xM → Prop) : Prop := xRan μ → 
  xLoop1 0 μ (fun J2 l1_1 μ2 =>
  (xIn l1_1) ∧ ((((μ2 1 3) ≤ l1_1 → Q (-1) μ2) ∧
  (¬ (μ2 1 3) ≤ l1_1 → tX5_isWordHere l1_1 μ2 (fun r9 μ7 => (r9 = 0 ∨ r9 = 1) → xRan μ7 → (((r9 = 0 → J2 (l1_1 + 1) μ7) ∧
  (r9 = 1 → Q l1_1 μ7))))))))
def tX5_readWord  (μ : xM) (Q : Int → xM → Prop) : Prop := xRan μ → 
  (((μ 1 3) < 24 → tX5_next μ (fun μ3 => xRan μ3 → ((((μ3 35 10) = 1 → tX5_toldWord μ3 (fun r9 μ7 => (xIn r9) → xRan μ7 → (((r9 < 0 → (xIn ((μ7 35 12) - (μ7 35 11))) ∧ (((((μ7 35 12) - (μ7 35 11)) ≤ 6 → tX2_addWord 1 36 900 (μ7 35 11) (μ7 35 12) μ7 (fun μ18 => xRan μ18 → (tX5_next μ18 (fun μ21 => xRan μ21 → (tX5_readKey 8 μ21 (fun r25 μ23 => (r25 = 0 ∨ r25 = 1) → xRan μ23 → (((r25 = 0 → Q 0 μ23) ∧
  (r25 = 1 → tX5_readWhole 0 99 μ23 (fun r30 μ28 => (r30 = 0 ∨ r30 = 1) → xRan μ28 → (((r30 = 1 → (xIn ((μ18 1 3) - 1)) ∧ (tX2_setValue 1 ((μ18 1 3) - 1) (μ28 35 13) μ28 (fun μ35 => xRan μ35 → (tX5_reads 9 μ35 (fun r39 μ37 => (r39 = 0 ∨ r39 = 1) → xRan μ37 → (((r39 = 0 → Q 1 μ37) ∧
  (r39 = 1 → tX2_setBarred 1 ((μ18 1 3) - 1) 1 μ37 (fun μ42 => xRan μ42 → (tX5_next μ42 (fun μ44 => xRan μ44 → (Q 1 μ44)))))))))))) ∧
  (r30 = 0 → Q 0 μ28))))))))))))) ∧
  (¬ ((μ7 35 12) - (μ7 35 11)) ≤ 6 → tX5_fails 4 μ7 (fun r48 μ46 => (r48 = 0 ∨ r48 = 1) → xRan μ46 → (Q r48 μ46)))))) ∧
  (¬ r9 < 0 → tX5_fails 3 μ7 (fun r52 μ50 => (r52 = 0 ∨ r52 = 1) → xRan μ50 → (Q r52 μ50))))))) ∧
  (¬ (μ3 35 10) = 1 → tX5_fails 1 μ3 (fun r56 μ54 => (r56 = 0 ∨ r56 = 1) → xRan μ54 → (Q r56 μ54))))))) ∧
  (¬ (μ 1 3) < 24 → tX5_fails 5 μ (fun r60 μ58 => (r60 = 0 ∨ r60 = 1) → xRan μ58 → (Q r60 μ58))))
def tX5_isNameHere (p1 : Int) (p2 : Int) (μ : xM) (Q : Int → xM → Prop) : Prop := xRan μ → (xIn p1) → (xIn p2) → 
  (xIn (p2 - p1)) ∧ ((xIn ((μ 35 12) - (μ 35 11))) ∧ ((((p2 - p1) = ((μ 35 12) - (μ 35 11)) → xLoop1 p1 μ (fun J19 l3_6 μ7 =>
  (xIn l3_6) ∧ (((p2 ≤ l3_6 → Q 1 μ7) ∧
  (¬ p2 ≤ l3_6 → tX5_byteAt l3_6 μ7 (fun r13 μ11 => (xIn r13) → xRan μ11 → ((xIn (((μ11 35 11) + l3_6) - p1)) ∧ (tX5_byteAt (((μ11 35 11) + l3_6) - p1) μ11 (fun r19 μ17 => (xIn r19) → xRan μ17 → (((r13 = r19 → J19 (l3_6 + 1) μ17) ∧
  (¬ r13 = r19 → Q 0 μ17)))))))))))) ∧
  (¬ (p2 - p1) = ((μ 35 12) - (μ 35 11)) → Q 0 μ))))
def tX5_isNamed  (μ : xM) (Q : Int → xM → Prop) : Prop := xRan μ → 
  xLoop1 0 μ (fun J2 l1_1 μ2 =>
  (xIn l1_1) ∧ ((((μ2 1 4) ≤ l1_1 → Q 0 μ2) ∧
  (¬ (μ2 1 4) ≤ l1_1 → ((8 ≤ l1_1 → Q 0 μ2) ∧
  (¬ 8 ≤ l1_1 → (0 ≤ l1_1 ∧ l1_1 < 8) ∧ (tX5_isNameHere (μ2 37 l1_1.toNat) (μ2 38 l1_1.toNat) μ2 (fun r13 μ11 => (r13 = 0 ∨ r13 = 1) → xRan μ11 → (((r13 = 0 → J2 (l1_1 + 1) μ11) ∧
  (r13 = 1 → Q 1 μ11)))))))))))
def tX5_readGuests  (μ : xM) (Q : Int → xM → Prop) : Prop := xRan μ → 
  xLoop1 0 μ (fun J2 l1_1 μ2 =>
  (xIn l1_1) ∧ (((8 < l1_1 → tX5_fails 5 μ2 (fun r8 μ6 => (r8 = 0 ∨ r8 = 1) → xRan μ6 → (Q r8 μ6))) ∧
  (¬ 8 < l1_1 → tX5_next μ2 (fun μ10 => xRan μ10 → ((((μ10 35 10) = 1 → tX5_isNamed μ10 (fun r16 μ14 => (r16 = 0 ∨ r16 = 1) → xRan μ14 → (((r16 = 0 → (((μ14 1 4) < 8 → (0 ≤ (μ14 1 4) ∧ (μ14 1 4) < 8) ∧ (∀ μ24 : xM, μ24 = wi μ14 37 ((μ14 1 4).toNat) (μ14 35 11) → xRan μ24 → ((0 ≤ (μ24 1 4) ∧ (μ24 1 4) < 8) ∧ (∀ μ30 : xM, μ30 = wi μ24 38 ((μ24 1 4).toNat) (μ24 35 12) → xRan μ30 → (tX5_byteAt (μ30 35 11) μ30 (fun r36 μ34 => (xIn r36) → xRan μ34 → ((xIn (r36 - 97)) ∧ (tX2_addGuest 1 (r36 - 97) μ34 (fun μ39 => xRan μ39 → (tX5_next μ39 (fun μ41 => xRan μ41 → ((((μ41 35 10) = 4 → J2 (l1_1 + 1) μ41) ∧
  (¬ (μ41 35 10) = 4 → Q 1 μ41)))))))))))))) ∧
  (¬ (μ14 1 4) < 8 → tX5_fails 5 μ14 (fun r47 μ45 => (r47 = 0 ∨ r47 = 1) → xRan μ45 → (Q r47 μ45))))) ∧
  (r16 = 1 → tX5_fails 3 μ14 (fun r51 μ49 => (r51 = 0 ∨ r51 = 1) → xRan μ49 → (Q r51 μ49))))))) ∧
  (¬ (μ10 35 10) = 1 → tX5_fails 1 μ10 (fun r55 μ53 => (r55 = 0 ∨ r55 = 1) → xRan μ53 → (Q r55 μ53))))))))))
def tX5_readLikely  (μ : xM) (Q : Int → xM → Prop) : Prop := xRan μ → 
  (((μ 1 5) < 6 → tX5_next μ (fun μ3 => xRan μ3 → ((((μ3 35 10) = 1 → (xIn ((μ3 35 12) - (μ3 35 11))) ∧ (((((μ3 35 12) - (μ3 35 11)) ≤ 1 → tX5_byteAt (μ3 35 11) μ3 (fun r14 μ12 => (xIn r14) → xRan μ12 → (xLoop1 0 μ12 (fun J69 l2_16 μ17 =>
  (xIn l2_16) ∧ ((((μ17 1 5) ≤ l2_16 → tX5_next μ17 (fun μ22 => xRan μ22 → (tX5_readWhole 1 9 μ22 (fun r26 μ24 => (r26 = 0 ∨ r26 = 1) → xRan μ24 → (((r26 = 1 → (xIn (r14 - 97)) ∧ (tX2_addLikely 1 (r14 - 97) (μ24 35 13) μ24 (fun μ31 => xRan μ31 → (Q 1 μ31)))) ∧
  (r26 = 0 → Q 0 μ24))))))) ∧
  (¬ (μ17 1 5) ≤ l2_16 → tX2_likelyOf 1 l2_16 μ17 (fun r35 μ33 => (xIn r35) → xRan μ33 → ((xIn (r14 - 97)) ∧ (((r35 ≠ (r14 - 97) → J69 (l2_16 + 1) μ33) ∧
  (r35 = (r14 - 97) → tX5_fails 3 μ33 (fun r41 μ39 => (r41 = 0 ∨ r41 = 1) → xRan μ39 → (Q r41 μ39)))))))))))))) ∧
  (¬ ((μ3 35 12) - (μ3 35 11)) ≤ 1 → tX5_fails 4 μ3 (fun r45 μ43 => (r45 = 0 ∨ r45 = 1) → xRan μ43 → (Q r45 μ43)))))) ∧
  (¬ (μ3 35 10) = 1 → tX5_fails 1 μ3 (fun r49 μ47 => (r49 = 0 ∨ r49 = 1) → xRan μ47 → (Q r49 μ47))))))) ∧
  (¬ (μ 1 5) < 6 → tX5_fails 5 μ (fun r53 μ51 => (r53 = 0 ∨ r53 = 1) → xRan μ51 → (Q r53 μ51))))
def tX5_readSeen  (μ : xM) (Q : Int → xM → Prop) : Prop := xRan μ → 
  (((μ 35 8) = 0 → ∀ μ3 : xM, μ3 = wi μ 35 8 1 → xRan μ3 → (xLoop1 0 μ3 (fun J20 l1_6 μ7 =>
  (xIn l1_6) ∧ (((6 < l1_6 → tX5_fails 5 μ7 (fun r13 μ11 => (r13 = 0 ∨ r13 = 1) → xRan μ11 → (Q r13 μ11))) ∧
  (¬ 6 < l1_6 → tX5_next μ7 (fun μ15 => xRan μ15 → ((((μ15 35 10) = 1 → tX5_toldWord μ15 (fun r21 μ19 => (xIn r21) → xRan μ19 → (((0 ≤ r21 → (((μ19 1 6) < 6 → tX2_addSeen 1 r21 μ19 (fun μ26 => xRan μ26 → (tX5_next μ26 (fun μ28 => xRan μ28 → ((((μ28 35 10) = 4 → J20 (l1_6 + 1) μ28) ∧
  (¬ (μ28 35 10) = 4 → Q 1 μ28))))))) ∧
  (¬ (μ19 1 6) < 6 → tX5_fails 5 μ19 (fun r34 μ32 => (r34 = 0 ∨ r34 = 1) → xRan μ32 → (Q r34 μ32))))) ∧
  (¬ 0 ≤ r21 → tX5_fails 2 μ19 (fun r38 μ36 => (r38 = 0 ∨ r38 = 1) → xRan μ36 → (Q r38 μ36))))))) ∧
  (¬ (μ15 35 10) = 1 → tX5_fails 1 μ15 (fun r42 μ40 => (r42 = 0 ∨ r42 = 1) → xRan μ40 → (Q r42 μ40)))))))))))) ∧
  (¬ (μ 35 8) = 0 → tX5_fails 3 μ (fun r46 μ44 => (r46 = 0 ∨ r46 = 1) → xRan μ44 → (Q r46 μ44))))
def tX5_readLine  (μ : xM) (Q : Int → xM → Prop) : Prop := xRan μ → 
  tX5_reads 0 μ (fun r3 μ1 => (r3 = 0 ∨ r3 = 1) → xRan μ1 → (((r3 = 0 → tX5_reads 7 μ1 (fun r8 μ6 => (r8 = 0 ∨ r8 = 1) → xRan μ6 → (((r8 = 0 → tX5_reads 10 μ6 (fun r13 μ11 => (r13 = 0 ∨ r13 = 1) → xRan μ11 → (((r13 = 0 → tX5_reads 11 μ11 (fun r18 μ16 => (r18 = 0 ∨ r18 = 1) → xRan μ16 → (((r18 = 0 → tX5_reads 12 μ16 (fun r23 μ21 => (r23 = 0 ∨ r23 = 1) → xRan μ21 → (((r23 = 0 → tX5_fails 1 μ21 (fun r28 μ26 => (r28 = 0 ∨ r28 = 1) → xRan μ26 → (Q r28 μ26))) ∧
  (r23 = 1 → tX5_readSeen μ21 (fun r32 μ30 => (r32 = 0 ∨ r32 = 1) → xRan μ30 → (Q r32 μ30))))))) ∧
  (r18 = 1 → tX5_readLikely μ16 (fun r36 μ34 => (r36 = 0 ∨ r36 = 1) → xRan μ34 → (Q r36 μ34))))))) ∧
  (r13 = 1 → tX5_readGuests μ11 (fun r40 μ38 => (r40 = 0 ∨ r40 = 1) → xRan μ38 → (Q r40 μ38))))))) ∧
  (r8 = 1 → tX5_readWord μ6 (fun r44 μ42 => (r44 = 0 ∨ r44 = 1) → xRan μ42 → (Q r44 μ42))))))) ∧
  (r3 = 1 → tX5_readHouse μ1 (fun r48 μ46 => (r48 = 0 ∨ r48 = 1) → xRan μ46 → (Q r48 μ46))))))
def tX5_ends  (μ : xM) (Q : Int → xM → Prop) : Prop := xRan μ → 
  (((μ 35 10) = 0 → (((μ 35 7) = 0 → tX5_fails 6 μ (fun r7 μ5 => (r7 = 0 ∨ r7 = 1) → xRan μ5 → (Q r7 μ5))) ∧
  (¬ (μ 35 7) = 0 → (((μ 1 3) < 1 → tX5_fails 6 μ (fun r13 μ11 => (r13 = 0 ∨ r13 = 1) → xRan μ11 → (Q r13 μ11))) ∧
  (¬ (μ 1 3) < 1 → ((1 ≤ (μ 1 4) → Q 1 μ) ∧
  (¬ 1 ≤ (μ 1 4) → tX5_fails 6 μ (fun r19 μ17 => (r19 = 0 ∨ r19 = 1) → xRan μ17 → (Q r19 μ17))))))))) ∧
  (¬ (μ 35 10) = 0 → tX5_fails 1 μ (fun r23 μ21 => (r23 = 0 ∨ r23 = 1) → xRan μ21 → (Q r23 μ21))))
def tX5_readInn (p1 : Int) (μ : xM) (Q : Int → xM → Prop) : Prop := xRan μ → (xIn p1) → 
  tX2_clear 1 μ (fun μ1 => xRan μ1 → (∀ μ3 : xM, μ3 = wi μ1 35 7 0 → xRan μ3 → (∀ μ6 : xM, μ6 = wi μ3 35 8 0 → xRan μ6 → (∀ μ9 : xM, μ9 = wi μ6 35 1 0 → xRan μ9 → (∀ μ12 : xM, μ12 = wi μ9 35 2 (-1) → xRan μ12 → (∀ μ16 : xM, μ16 = wi μ12 35 9 (min p1 (μ12 35 0)) → xRan μ16 → (∀ μ19 : xM, μ19 = wi μ16 35 12 0 → xRan μ19 → (∀ μ22 : xM, μ22 = wi μ19 35 0 0 → xRan μ22 → (tX5_next μ22 (fun μ25 => xRan μ25 → (tX5_readLine μ25 (fun r29 μ27 => (r29 = 0 ∨ r29 = 1) → xRan μ27 → (xLoop2 r29 0 μ27 (fun J60 l2_31 l3_32 μ33 =>
  (xIn l2_31) ∧ (((l2_31 = 0 → ((l2_31 = 0 → Q 0 μ33) ∧
  (¬ l2_31 = 0 → tX5_ends μ33 (fun r40 μ38 => (r40 = 0 ∨ r40 = 1) → xRan μ38 → (((r40 = 0 → Q 0 μ38) ∧
  (r40 = 1 → Q 1 μ38))))))) ∧
  (¬ l2_31 = 0 → (((μ33 35 10) ≠ 3 → ((l2_31 = 0 → Q 0 μ33) ∧
  (¬ l2_31 = 0 → tX5_ends μ33 (fun r48 μ46 => (r48 = 0 ∨ r48 = 1) → xRan μ46 → (((r48 = 0 → Q 0 μ46) ∧
  (r48 = 1 → Q 1 μ46))))))) ∧
  ((μ33 35 10) = 3 → (xIn l3_32) ∧ (((900 ≤ l3_32 → ((l2_31 = 0 → Q 0 μ33) ∧
  (¬ l2_31 = 0 → tX5_ends μ33 (fun r56 μ54 => (r56 = 0 ∨ r56 = 1) → xRan μ54 → (((r56 = 0 → Q 0 μ54) ∧
  (r56 = 1 → Q 1 μ54))))))) ∧
  (¬ 900 ≤ l3_32 → tX5_next μ33 (fun μ59 => xRan μ59 → (tX5_readLine μ59 (fun r63 μ61 => (r63 = 0 ∨ r63 = 1) → xRan μ61 → (J60 r63 (l3_32 + 1) μ61))))))))))))))))))))))))))
def tX6_grownBy (p1 : Int) (μ : xM) (Q : Int → xM → Prop) : Prop := xRan μ → (xIn p1) → 
  (xIn (p1 - 1)) ∧ (tX2_seenOf 39 (p1 - 1) μ (fun r4 μ2 => (xIn r4) → xRan μ2 → (tX2_seenOf 39 p1 μ2 (fun r8 μ6 => (xIn r8) → xRan μ6 → (tX1_letterOf r4 r8 μ6 (fun r12 μ10 => (xIn r12) → xRan μ10 → (Q r12 μ10)))))))
def tX6_firstWrong  (μ : xM) (Q : Int → xM → Prop) : Prop := xRan μ → 
  xLoop1 0 μ (fun J2 l1_1 μ2 =>
  (xIn l1_1) ∧ ((((μ2 39 6) ≤ l1_1 → Q (-2) μ2) ∧
  (¬ (μ2 39 6) ≤ l1_1 → tX2_seenOf 39 l1_1 μ2 (fun r9 μ7 => (xIn r9) → xRan μ7 → (tX2_isGood 39 r9 μ7 (fun r13 μ11 => (r13 = 0 ∨ r13 = 1) → xRan μ11 → (((r13 = 0 → Q l1_1 μ11) ∧
  (r13 = 1 → ((l1_1 ≤ 0 → J2 (l1_1 + 1) μ11) ∧
  (¬ l1_1 ≤ 0 → tX6_grownBy l1_1 μ11 (fun r19 μ17 => (xIn r19) → xRan μ17 → (((0 ≤ r19 → J2 (l1_1 + 1) μ17) ∧
  (¬ 0 ≤ r19 → Q l1_1 μ17))))))))))))))))
def tX6_layOut (p1 : Nat) (p1n : Nat) (μ : xM) (Q : xM → Prop) : Prop := xRan μ → 
  tJ7_fill_53178 248 26 0 μ (fun μ1 => xRan μ1 → (xLoop1 0 μ1 (fun J10 l2_3 μ4 =>
  (xIn l2_3) ∧ ((((p1n : Int) ≤ l2_3 → Q μ4) ∧
  (¬ (p1n : Int) ≤ l2_3 → (0 ≤ l2_3 ∧ l2_3 < p1n) ∧ ((((μ4 p1 l2_3.toNat) < 0 → Q μ4) ∧
  (¬ (μ4 p1 l2_3.toNat) < 0 → ((26 ≤ (μ4 p1 l2_3.toNat) → Q μ4) ∧
  (¬ 26 ≤ (μ4 p1 l2_3.toNat) → (0 ≤ (μ4 p1 l2_3.toNat) ∧ (μ4 p1 l2_3.toNat) < 26) ∧ ((xIn ((μ4 248 ((μ4 p1 l2_3.toNat).toNat)) + 1)) ∧ (∀ μ17 : xM, μ17 = wi μ4 248 ((μ4 p1 l2_3.toNat).toNat) ((μ4 248 ((μ4 p1 l2_3.toNat).toNat)) + 1) → xRan μ17 → (J10 (l2_3 + 1) μ17))))))))))))))
def tX6_takes (p1 : Int) (μ : xM) (Q : Int → xM → Prop) : Prop := xRan μ → (xIn p1) → 
  ((p1 < 0 → Q 0 μ) ∧
  (¬ p1 < 0 → ((26 ≤ p1 → Q 0 μ) ∧
  (¬ 26 ≤ p1 → (0 ≤ p1 ∧ p1 < 26) ∧ (((1 ≤ (μ 248 p1.toNat) → (xIn ((μ 248 p1.toNat) - 1)) ∧ (∀ μ8 : xM, μ8 = wi μ 248 p1.toNat ((μ 248 p1.toNat) - 1) → xRan μ8 → (Q 1 μ8))) ∧
  (¬ 1 ≤ (μ 248 p1.toNat) → Q 0 μ)))))))
def tX6_isRow (p1 : Int) (μ : xM) (Q : Int → xM → Prop) : Prop := xRan μ → (xIn p1) → 
  tX2_seenOf 39 0 μ (fun r3 μ1 => (xIn r3) → xRan μ1 → (tX2_lengthOf 39 r3 μ1 (fun r7 μ5 => (xIn r7) → xRan μ5 → (tX2_seenOf 39 0 μ5 (fun r11 μ9 => (xIn r11) → xRan μ9 → (tX2_glyphsOf 39 r11 μ9 (fun r15 μ13 => xRan μ13 → (lay r15 = (1, 6, []) ∧ r15 < 281) ∧ (tX6_layOut r15 6 μ13 (fun μ17 => xRan μ17 → (xLoop2 0 0 μ17 (fun J40 l3_19 l4_20 μ21 =>
  (xIn l4_20) ∧ ((((μ21 39 4) ≤ l4_20 → Q 1 μ21) ∧
  (¬ (μ21 39 4) ≤ l4_20 → (((xAnd (xShr p1 l4_20) 1) ≠ 1 → J40 l3_19 (l4_20 + 1) μ21) ∧
  ((xAnd (xShr p1 l4_20) 1) = 1 → tX2_firstOf 39 l4_20 μ21 (fun r29 μ27 => (xIn r29) → xRan μ27 → ((xIn l3_19) ∧ (((r7 ≤ l3_19 → (xIn ((l3_19 - r7) + 1)) ∧ (tX6_grownBy ((l3_19 - r7) + 1) μ27 (fun r36 μ34 => (xIn r36) → xRan μ34 → (((r36 ≠ r29 → Q 0 μ34) ∧
  (r36 = r29 → J40 (l3_19 + 1) (l4_20 + 1) μ34)))))) ∧
  (¬ r7 ≤ l3_19 → tX6_takes r29 μ27 (fun r43 μ41 => (r43 = 0 ∨ r43 = 1) → xRan μ41 → (((r43 = 1 → J40 (l3_19 + 1) (l4_20 + 1) μ41) ∧
  (r43 = 0 → Q 0 μ41)))))))))))))))))))))))))
def tX6_rowsWith_b71 (p1 : Int) (b2 : Int) (b3 : Int) (b4 : Int) (s0 : Int) (μ : xM) (Q : Int → xM → Prop) (J38 : Int → Int → xM → Prop) : Prop := xRan μ →
  (xIn s0) ∧ (((s0 = 0 → J38 b3 (b4 + 1) μ) ∧
  (¬ s0 = 0 → (xIn b4) ∧ (tJ6_bitCount_0f7a4 b4 μ (fun r30 μ28 => (xIn r30) → xRan μ28 → ((xIn b2) ∧ (((r30 ≠ b2 → J38 b3 (b4 + 1) μ28) ∧
  (r30 = b2 → tX6_isRow b4 μ28 (fun r36 μ34 => (r36 = 0 ∨ r36 = 1) → xRan μ34 → (((r36 = 0 → J38 b3 (b4 + 1) μ34) ∧
  (r36 = 1 → J38 (b3 + 1) (b4 + 1) μ34)))))))))))))
def tX6_rowsWith_b66 (p1 : Int) (b2 : Int) (b3 : Int) (b4 : Int) (μ : xM) (Q : Int → xM → Prop) (J38 : Int → Int → xM → Prop) : Prop := xRan μ →
  tX6_rowsWith_b71 p1 b2 b3 b4 1 μ Q J38
def tX6_rowsWith (p1 : Int) (μ : xM) (Q : Int → xM → Prop) : Prop := xRan μ → (xIn p1) → 
  tX6_firstWrong μ (fun r3 μ1 => (xIn r3) → xRan μ1 → (((r3 < 0 → (xIn ((μ1 39 6) - 1)) ∧ (tX2_seenOf 39 ((μ1 39 6) - 1) μ1 (fun r10 μ8 => (xIn r10) → xRan μ8 → (tX2_lengthOf 39 r10 μ8 (fun r14 μ12 => (xIn r14) → xRan μ12 → (xLoop2 0 0 μ12 (fun J38 l3_16 l4_17 μ18 =>
  (xIn l4_17) ∧ ((((xShl 1 (μ18 39 4)) ≤ l4_17 → (xIn l3_16) ∧ (Q l3_16 μ18)) ∧
  (¬ (xShl 1 (μ18 39 4)) ≤ l4_17 → ((p1 < 0 → tX6_rowsWith_b66 p1 r14 l3_16 l4_17 μ18 Q J38) ∧
  (¬ p1 < 0 → (((xAnd (xShr l4_17 p1) 1) ≠ 1 → tX6_rowsWith_b71 p1 r14 l3_16 l4_17 0 μ18 Q J38) ∧
  ((xAnd (xShr l4_17 p1) 1) = 1 → tX6_rowsWith_b66 p1 r14 l3_16 l4_17 μ18 Q J38)))))))))))))) ∧
  (¬ r3 < 0 → Q 0 μ1))))
def tX7_codeOf (p1 : Int) (p2 : Int) (p3 : Int) (μ : xM) (Q : Int → xM → Prop) : Prop := xRan μ → (xIn p1) → (xIn p2) → (xIn p3) → 
  (xIn ((((p1 * 25) + p2) * 25) + p3)) ∧ (Q ((((p1 * 25) + p2) * 25) + p3) μ)
def tX7_kindAt (p1 : Int) (p2 : Int) (μ : xM) (Q : Int → xM → Prop) : Prop := xRan μ → (xIn p1) → (xIn p2) → 
  ((p2 ≠ 0 → ((p2 ≠ 1 → (xIn (p1.tmod 25)) ∧ (Q (p1.tmod 25) μ)) ∧
  (p2 = 1 → (xIn (p1.tdiv 25)) ∧ ((xIn ((p1.tdiv 25).tmod 25)) ∧ (Q ((p1.tdiv 25).tmod 25) μ))))) ∧
  (p2 = 0 → (xIn (p1.tdiv 625)) ∧ (Q (p1.tdiv 625) μ)))
def tX7_placeOf (p1 : Int) (μ : xM) (Q : Int → xM → Prop) : Prop := xRan μ → (xIn p1) → 
  ((p1 ≠ 0 → ((p1 ≠ 1 → Q 1 μ) ∧
  (p1 = 1 → Q 25 μ))) ∧
  (p1 = 0 → Q 625 μ))
def tX7_gather (p1 : Nat) (μ : xM) (Q : xM → Prop) : Prop := xRan μ → 
  tJ7_fill_53178 237 26 0 μ (fun μ1 => xRan μ1 → (∀ μ4 : xM, μ4 = wi μ1 236 11 (μ1 p1 1) → xRan μ4 → (xLoop1 0 μ4 (fun J18 l2_7 μ8 =>
  (xIn l2_7) ∧ ((((μ8 236 11) ≤ l2_7 → Q μ8) ∧
  (¬ (μ8 236 11) ≤ l2_7 → tX2_firstOf 39 l2_7 μ8 (fun r15 μ13 => (xIn r15) → xRan μ13 → (((r15 < 0 → J18 (l2_7 + 1) μ13) ∧
  (¬ r15 < 0 → ((26 ≤ r15 → J18 (l2_7 + 1) μ13) ∧
  (¬ 26 ≤ r15 → (0 ≤ r15 ∧ r15 < 26) ∧ ((xIn ((μ13 237 r15.toNat) + 1)) ∧ (∀ μ22 : xM, μ22 = wi μ13 237 r15.toNat ((μ13 237 r15.toNat) + 1) → xRan μ22 → (J18 (l2_7 + 1) μ22))))))))))))))))
def tX7_measure_b127 (p1 : Nat) (p1n : Nat) (p2 : Int) (b3 : Int) (b4 : Int) (b5 : Int) (b6 : Int) (b7 : Int) (s0 : Int) (μ : xM) (Q : xM → Prop) (J39 : Int → Int → xM → Prop) (J75 : Int → Int → xM → Prop) : Prop := xRan μ →
  (xIn s0) ∧ (((s0 < 0 → J75 b3 (b7 + 1) μ) ∧
  (¬ s0 < 0 → ((25 ≤ s0 → J75 b3 (b7 + 1) μ) ∧
  (¬ 25 ≤ s0 → (0 ≤ s0 ∧ s0 < p1n) ∧ (((0 ≤ (μ p1 s0.toNat) → J75 b3 (b7 + 1) μ) ∧
  (¬ 0 ≤ (μ p1 s0.toNat) → (xIn b3) ∧ (((25 ≤ b3 → J75 b3 (b7 + 1) μ) ∧
  (¬ 25 ≤ b3 → (0 ≤ b5 ∧ b5 < p1n) ∧ ((xIn ((μ p1 b5.toNat) + 1)) ∧ (∀ μ55 : xM, μ55 = wi μ p1 s0.toNat ((μ p1 b5.toNat) + 1) → xRan μ55 → ((0 ≤ b3 ∧ b3 < 25) ∧ (∀ μ59 : xM, μ59 = wi μ55 242 b3.toNat s0 → xRan μ59 → (J75 (b3 + 1) (b7 + 1) μ59))))))))))))))))
def tX7_measure (p1 : Nat) (p1n : Nat) (p2 : Int) (μ : xM) (Q : xM → Prop) : Prop := xRan μ → (xIn p2) → 
  tJ7_fill_53178 p1 p1n (-1) μ (fun μ1 => xRan μ1 → (((p2 < 0 → Q μ1) ∧
  (¬ p2 < 0 → ((25 ≤ p2 → Q μ1) ∧
  (¬ 25 ≤ p2 → ((25 ≤ (p1n : Int) → (0 ≤ p2 ∧ p2 < p1n) ∧ (∀ μ7 : xM, μ7 = wi μ1 p1 p2.toNat 0 → xRan μ7 → (∀ μ10 : xM, μ10 = wi μ7 242 0 p2 → xRan μ10 → (xLoop2 1 0 μ10 (fun J39 l3_13 l4_14 μ15 =>
  (xIn l4_14) ∧ ((xIn l3_13) ∧ (((l3_13 ≤ l4_14 → Q μ15) ∧
  (¬ l3_13 ≤ l4_14 → ((25 ≤ l4_14 → Q μ15) ∧
  (¬ 25 ≤ l4_14 → (0 ≤ l4_14 ∧ l4_14 < 25) ∧ (tX1_ups (μ15 242 l4_14.toNat) μ15 (fun r25 μ23 => (xIn r25) → xRan μ23 → (xLoop2 l3_13 0 μ23 (fun J75 l3_27 l7_28 μ29 =>
  tX1_downs (μ15 242 l4_14.toNat) μ29 (fun r33 μ31 => (xIn r33) → xRan μ31 → ((xIn l7_28) ∧ ((xIn (r25 + r33)) ∧ ((((r25 + r33) ≤ l7_28 → J39 l3_27 (l4_14 + 1) μ31) ∧
  (¬ (r25 + r33) ≤ l7_28 → ((r25 ≤ l7_28 → (xIn (l7_28 - r25)) ∧ (tX1_downOf (μ15 242 l4_14.toNat) (l7_28 - r25) μ31 (fun r42 μ40 => (xIn r42) → xRan μ40 → (tX7_measure_b127 p1 p1n p2 l3_27 l4_14 (μ15 242 l4_14.toNat) r25 l7_28 r42 μ40 Q J39 J75)))) ∧
  (¬ r25 ≤ l7_28 → tX1_upOf (μ15 242 l4_14.toNat) l7_28 μ31 (fun r64 μ62 => (xIn r64) → xRan μ62 → (tX7_measure_b127 p1 p1n p2 l3_27 l4_14 (μ15 242 l4_14.toNat) r25 l7_28 r64 μ62 Q J39 J75))))))))))))))))))))))))) ∧
  (¬ 25 ≤ (p1n : Int) → Q μ1))))))))
def tX7_farOf (p1 : Int) (p2 : Int) (μ : xM) (Q : Int → xM → Prop) : Prop := xRan μ → (xIn p1) → (xIn p2) → 
  ((p1 < 0 → Q (-1) μ) ∧
  (¬ p1 < 0 → ((3 ≤ p1 → Q (-1) μ) ∧
  (¬ 3 ≤ p1 → ((p2 < 0 → Q (-1) μ) ∧
  (¬ p2 < 0 → ((25 ≤ p2 → Q (-1) μ) ∧
  (¬ 25 ≤ p2 → (0 ≤ p1 ∧ p1 < 3) ∧ ((0 ≤ p2 ∧ p2 < 25) ∧ (Q (μ (239 + p1.toNat) p2.toNat) μ))))))))))
def tX7_awayFrom (p1 : Int) (p2 : Int) (μ : xM) (Q : Int → xM → Prop) : Prop := xRan μ → (xIn p1) → (xIn p2) → 
  xLoop2 0 0 μ (fun J5 l3_1 l4_2 μ3 =>
  (xIn l4_2) ∧ ((((μ3 39 0) ≤ l4_2 → (xIn l3_1) ∧ (Q l3_1 μ3)) ∧
  (¬ (μ3 39 0) ≤ l4_2 → ((3 ≤ l4_2 → (xIn l3_1) ∧ (Q l3_1 μ3)) ∧
  (¬ 3 ≤ l4_2 → (0 ≤ l4_2 ∧ l4_2 < 3) ∧ (tX7_kindAt p2 l4_2 μ3 (fun r14 μ12 => (xIn r14) → xRan μ12 → (tX7_measure (239 + l4_2.toNat) 25 r14 μ12 (fun μ16 => xRan μ16 → (tX7_kindAt p1 l4_2 μ16 (fun r20 μ18 => (xIn r20) → xRan μ18 → (tX7_farOf l4_2 r20 μ18 (fun r24 μ22 => (xIn r24) → xRan μ22 → (((0 ≤ r24 → J5 (l3_1 + r24) (l4_2 + 1) μ22) ∧
  (¬ 0 ≤ r24 → Q (-1) μ22)))))))))))))))))
def tX7_standingAt (p1 : Int) (μ : xM) (Q : Int → xM → Prop) : Prop := xRan μ → (xIn p1) → 
  tX7_kindAt p1 0 μ (fun r4 μ2 => (xIn r4) → xRan μ2 → (tX2_lengthOf 39 r4 μ2 (fun r8 μ6 => (xIn r8) → xRan μ6 → (tX7_kindAt p1 1 μ6 (fun r12 μ10 => (xIn r12) → xRan μ10 → (tX2_lengthOf 39 r12 μ10 (fun r16 μ14 => (xIn r16) → xRan μ14 → (tX7_kindAt p1 2 μ14 (fun r20 μ18 => (xIn r20) → xRan μ18 → (tX2_lengthOf 39 r20 μ18 (fun r24 μ22 => (xIn r24) → xRan μ22 → ((xIn ((((μ 236 11) - r8) - r16) - r24)) ∧ (Q ((((μ 236 11) - r8) - r16) - r24) μ22)))))))))))))
def tX7_shift (p1 : Int) (p2 : Int) (μ : xM) (Q : xM → Prop) : Prop := xRan μ → (xIn p1) → (xIn p2) → 
  xLoop1 0 μ (fun J2 l3_1 μ2 =>
  (xIn l3_1) ∧ (((3 ≤ l3_1 → Q μ2) ∧
  (¬ 3 ≤ l3_1 → tX7_kindAt p1 l3_1 μ2 (fun r8 μ6 => (xIn r8) → xRan μ6 → (tX2_glyphsOf 39 r8 μ6 (fun r12 μ10 => xRan μ10 → (lay r12 = (1, 6, []) ∧ r12 < 281) ∧ (xLoop1 0 μ10 (fun J24 l5_14 μ15 =>
  (xIn l5_14) ∧ (((6 ≤ l5_14 → J2 (l3_1 + 1) μ15) ∧
  (¬ 6 ≤ l5_14 → (0 ≤ l5_14 ∧ l5_14 < 6) ∧ ((((μ15 r12 l5_14.toNat) < 0 → J2 (l3_1 + 1) μ15) ∧
  (¬ (μ15 r12 l5_14.toNat) < 0 → ((26 ≤ (μ15 r12 l5_14.toNat) → J2 (l3_1 + 1) μ15) ∧
  (¬ 26 ≤ (μ15 r12 l5_14.toNat) → (0 ≤ (μ15 r12 l5_14.toNat) ∧ (μ15 r12 l5_14.toNat) < 26) ∧ ((xIn ((μ15 237 ((μ15 r12 l5_14.toNat).toNat)) + p2)) ∧ (∀ μ28 : xM, μ28 = wi μ15 237 ((μ15 r12 l5_14.toNat).toNat) ((μ15 237 ((μ15 r12 l5_14.toNat).toNat)) + p2) → xRan μ28 → (J24 (l5_14 + 1) μ28))))))))))))))))))))
def tX7_canBe_b17 (p1 : Int) (s0 : Int) (μ : xM) (Q : Int → xM → Prop)  : Prop := xRan μ →
  tX7_shift p1 (-1) μ (fun μ7 => xRan μ7 → (xLoop2 s0 0 μ7 (fun J26 l2_9 l3_10 μ11 =>
  (xIn l3_10) ∧ (((26 ≤ l3_10 → tX7_shift p1 1 μ11 (fun μ15 => xRan μ15 → ((l2_9 = 0 ∨ l2_9 = 1) ∧ (Q l2_9 μ15)))) ∧
  (¬ 26 ≤ l3_10 → (0 ≤ l3_10 ∧ l3_10 < 26) ∧ ((((μ11 237 l3_10.toNat) < 0 → J26 (xAnd l2_9 0) (l3_10 + 1) μ11) ∧
  (¬ (μ11 237 l3_10.toNat) < 0 → J26 (xAnd l2_9 1) (l3_10 + 1) μ11)))))))))
def tX7_canBe (p1 : Int) (μ : xM) (Q : Int → xM → Prop) : Prop := xRan μ → (xIn p1) → 
  tX7_standingAt p1 μ (fun r3 μ1 => (xIn r3) → xRan μ1 → ((((μ1 236 12) < r3 → tX7_canBe_b17 p1 0 μ1 Q ) ∧
  (¬ (μ1 236 12) < r3 → tX7_canBe_b17 p1 1 μ1 Q ))))
def tX7_isIn (p1 : Nat) (p1n : Nat) (p2 : Int) (μ : xM) (Q : Int → xM → Prop) : Prop := xRan μ → (xIn p2) → 
  ((p2 < 0 → Q 0 μ) ∧
  (¬ p2 < 0 → (xIn (p2.tdiv 32)) ∧ ((((p1n : Int) ≤ (p2.tdiv 32) → Q 0 μ) ∧
  (¬ (p1n : Int) ≤ (p2.tdiv 32) → (0 ≤ (p2.tdiv 32) ∧ (p2.tdiv 32) < p1n) ∧ ((((xAnd (xUshr (μ p1 ((p2.tdiv 32).toNat)) (p2.tmod 32)) 1) ≠ 1 → Q 0 μ) ∧
  ((xAnd (xUshr (μ p1 ((p2.tdiv 32).toNat)) (p2.tmod 32)) 1) = 1 → Q 1 μ))))))))
def tX7_putNow (p1 : Int) (μ : xM) (Q : xM → Prop) : Prop := xRan μ → (xIn p1) → 
  ((p1 < 0 → Q μ) ∧
  (¬ p1 < 0 → ((15625 ≤ p1 → Q μ) ∧
  (¬ 15625 ≤ p1 → ((15625 ≤ (μ 236 9) → Q μ) ∧
  (¬ 15625 ≤ (μ 236 9) → tX7_isIn 245 489 p1 μ (fun r7 μ5 => (r7 = 0 ∨ r7 = 1) → xRan μ5 → (((r7 = 1 → Q μ5) ∧
  (r7 = 0 → (0 ≤ (p1.tdiv 32) ∧ (p1.tdiv 32) < 489) ∧ (∀ μ12 : xM, μ12 = wi μ5 245 ((p1.tdiv 32).toNat) (xOr (μ5 245 ((p1.tdiv 32).toNat)) (xShl 1 (p1.tmod 32))) → xRan μ12 → ((lay (μ12 236 5).toNat = (1, 15625, []) ∧ (μ12 236 5).toNat < 281) ∧ ((0 ≤ (μ12 236 9) ∧ (μ12 236 9) < 15625) ∧ (∀ μ18 : xM, μ18 = wi μ12 ((μ12 236 5).toNat) ((μ12 236 9).toNat) p1 → xRan μ18 → ((xIn ((μ18 236 9) + 1)) ∧ (∀ μ23 : xM, μ23 = wi μ18 236 9 ((μ18 236 9) + 1) → xRan μ23 → (Q μ23)))))))))))))))))
def tX7_isStanding (p1 : Int) (μ : xM) (Q : Int → xM → Prop) : Prop := xRan μ → (xIn p1) → 
  ((p1 < 0 → Q 0 μ) ∧
  (¬ p1 < 0 → ((26 ≤ p1 → Q 0 μ) ∧
  (¬ 26 ≤ p1 → (0 ≤ p1 ∧ p1 < 26) ∧ ((((μ 237 p1.toNat) ≤ 0 → Q 0 μ) ∧
  (¬ (μ 237 p1.toNat) ≤ 0 → Q 1 μ)))))))
def tX7_putLater (p1 : Int) (μ : xM) (Q : xM → Prop) : Prop := xRan μ → (xIn p1) → 
  ((p1 < 0 → Q μ) ∧
  (¬ p1 < 0 → ((15625 ≤ p1 → Q μ) ∧
  (¬ 15625 ≤ p1 → ((15625 ≤ (μ 236 10) → Q μ) ∧
  (¬ 15625 ≤ (μ 236 10) → tX7_isIn 245 489 p1 μ (fun r7 μ5 => (r7 = 0 ∨ r7 = 1) → xRan μ5 → (((r7 = 1 → Q μ5) ∧
  (r7 = 0 → tX7_isIn 246 489 p1 μ5 (fun r12 μ10 => (r12 = 0 ∨ r12 = 1) → xRan μ10 → (((r12 = 1 → Q μ10) ∧
  (r12 = 0 → (0 ≤ (p1.tdiv 32) ∧ (p1.tdiv 32) < 489) ∧ (∀ μ17 : xM, μ17 = wi μ10 246 ((p1.tdiv 32).toNat) (xOr (μ10 246 ((p1.tdiv 32).toNat)) (xShl 1 (p1.tmod 32))) → xRan μ17 → ((lay (μ17 236 6).toNat = (1, 15625, []) ∧ (μ17 236 6).toNat < 281) ∧ ((0 ≤ (μ17 236 10) ∧ (μ17 236 10) < 15625) ∧ (∀ μ23 : xM, μ23 = wi μ17 ((μ17 236 6).toNat) ((μ17 236 10).toNat) p1 → xRan μ23 → ((xIn ((μ23 236 10) + 1)) ∧ (∀ μ28 : xM, μ28 = wi μ23 236 10 ((μ23 236 10) + 1) → xRan μ28 → (Q μ28)))))))))))))))))))))
def tX7_step (p1 : Int) (p2 : Int) (p3 : Int) (p4 : Int) (μ : xM) (Q : xM → Prop) : Prop := xRan μ → (xIn p1) → (xIn p2) → (xIn p3) → (xIn p4) → 
  tX7_placeOf p2 μ (fun r3 μ1 => (xIn r3) → xRan μ1 → (tX7_farOf p2 p4 μ1 (fun r7 μ5 => (xIn r7) → xRan μ5 → (tX7_farOf p2 p3 μ5 (fun r11 μ9 => (xIn r11) → xRan μ9 → (((r11 ≤ r7 → (xIn (p1 + ((p4 - p3) * r3))) ∧ (tX7_putLater (p1 + ((p4 - p3) * r3)) μ9 (fun μ15 => xRan μ15 → (Q μ15)))) ∧
  (¬ r11 ≤ r7 → (xIn (p1 + ((p4 - p3) * r3))) ∧ (tX7_putNow (p1 + ((p4 - p3) * r3)) μ9 (fun μ18 => xRan μ18 → (Q μ18)))))))))))
def tX7_goOn_b102 (p1 : Int) (b2 : Int) (b3 : Int) (b4 : Int) (μ : xM) (Q : xM → Prop) (J14 : Int → xM → Prop) : Prop := xRan μ →
  (xIn (b2 + 1)) ∧ ((((μ 236 12) < (b2 + 1) → J14 (b3 + 1) μ) ∧
  (¬ (μ 236 12) < (b2 + 1) → xLoop1 0 μ (fun J115 l5_25 μ26 =>
  (xIn b4) ∧ (tX1_downs b4 μ26 (fun r31 μ29 => (xIn r31) → xRan μ29 → ((xIn l5_25) ∧ (((r31 ≤ l5_25 → J14 (b3 + 1) μ29) ∧
  (¬ r31 ≤ l5_25 → tX1_downOf b4 l5_25 μ29 (fun r37 μ35 => (xIn r37) → xRan μ35 → ((xIn b3) ∧ (tX7_step p1 b3 b4 r37 μ35 (fun μ40 => xRan μ40 → (J115 (l5_25 + 1) μ40)))))))))))))))
def tX7_goOn (p1 : Int) (μ : xM) (Q : xM → Prop) : Prop := xRan μ → (xIn p1) → 
  tX7_standingAt p1 μ (fun r3 μ1 => (xIn r3) → xRan μ1 → (tX7_shift p1 (-1) μ1 (fun μ5 => xRan μ5 → (xLoop1 0 μ5 (fun J14 l3_7 μ8 =>
  (xIn l3_7) ∧ ((((μ8 39 0) ≤ l3_7 → tX7_shift p1 1 μ8 (fun μ13 => xRan μ13 → (Q μ13))) ∧
  (¬ (μ8 39 0) ≤ l3_7 → tX7_kindAt p1 l3_7 μ8 (fun r17 μ15 => (xIn r17) → xRan μ15 → ((xIn (r3 - 1)) ∧ ((((μ15 236 12) < (r3 - 1) → tX7_goOn_b102 p1 r3 l3_7 r17 μ15 Q J14) ∧
  (¬ (μ15 236 12) < (r3 - 1) → xLoop1 0 μ15 (fun J45 l5_42 μ43 =>
  tX1_ups r17 μ43 (fun r47 μ45 => (xIn r47) → xRan μ45 → ((xIn l5_42) ∧ (((r47 ≤ l5_42 → tX7_goOn_b102 p1 r3 l3_7 r17 μ45 Q J14) ∧
  (¬ r47 ≤ l5_42 → tX1_byOf r17 l5_42 μ45 (fun r53 μ51 => (xIn r53) → xRan μ51 → (tX7_isStanding r53 μ51 (fun r57 μ55 => (r57 = 0 ∨ r57 = 1) → xRan μ55 → (((r57 = 0 → J45 (l5_42 + 1) μ55) ∧
  (r57 = 1 → tX1_upOf r17 l5_42 μ55 (fun r62 μ60 => (xIn r62) → xRan μ60 → ((xIn l3_7) ∧ (tX7_step p1 l3_7 r17 r62 μ60 (fun μ65 => xRan μ65 → (J45 (l5_42 + 1) μ65))))))))))))))))))))))))))))))
def tX7_goOnAll  (μ : xM) (Q : xM → Prop) : Prop := xRan μ → 
  xLoop1 0 μ (fun J2 l1_1 μ2 =>
  (xIn l1_1) ∧ (((15625 ≤ l1_1 → Q μ2) ∧
  (¬ 15625 ≤ l1_1 → (((μ2 236 9) ≤ 0 → Q μ2) ∧
  (¬ (μ2 236 9) ≤ 0 → (xIn ((μ2 236 9) - 1)) ∧ (∀ μ10 : xM, μ10 = wi μ2 236 9 ((μ2 236 9) - 1) → xRan μ10 → ((lay (μ10 236 5).toNat = (1, 15625, []) ∧ (μ10 236 5).toNat < 281) ∧ ((0 ≤ (μ10 236 9) ∧ (μ10 236 9) < 15625) ∧ (tX7_goOn (μ10 ((μ10 236 5).toNat) ((μ10 236 9).toNat)) μ10 (fun μ17 => xRan μ17 → (J2 (l1_1 + 1) μ17))))))))))))
def tX7_takeLater  (μ : xM) (Q : xM → Prop) : Prop := xRan μ → 
  (lay (μ 236 6).toNat = (1, 15625, []) ∧ (μ 236 6).toNat < 281) ∧ ((lay (μ 236 5).toNat = (1, 15625, []) ∧ (μ 236 5).toNat < 281) ∧ (∀ μ4 : xM, μ4 = wi μ 236 6 ((μ 236 5).toNat : Nat) → xRan μ4 → (∀ μ7 : xM, μ7 = wi μ4 236 5 ((μ 236 6).toNat : Nat) → xRan μ7 → (∀ μ10 : xM, μ10 = wi μ7 236 10 0 → xRan μ10 → (∀ μ13 : xM, μ13 = wi μ10 236 9 0 → xRan μ13 → (xLoop1 0 μ13 (fun J35 l3_16 μ17 =>
  (xIn l3_16) ∧ ((((μ 236 10) ≤ l3_16 → Q μ17) ∧
  (¬ (μ 236 10) ≤ l3_16 → ((15625 ≤ l3_16 → Q μ17) ∧
  (¬ 15625 ≤ l3_16 → (0 ≤ l3_16 ∧ l3_16 < 15625) ∧ (tX7_putNow (μ17 ((μ 236 6).toNat) l3_16.toNat) μ17 (fun μ24 => xRan μ24 → (J35 (l3_16 + 1) μ24)))))))))))))))
def tX7_climb (p1 : Nat) (p2 : Int) (p3 : Int) (μ : xM) (Q : Int → xM → Prop) : Prop := xRan μ → (xIn p2) → (xIn p3) → 
  tX4_at p1 0 μ (fun r3 μ1 => (xIn r3) → xRan μ1 → (tX4_at p1 1 μ1 (fun r7 μ5 => (xIn r7) → xRan μ5 → (tX4_at p1 2 μ5 (fun r11 μ9 => (xIn r11) → xRan μ9 → (tX7_codeOf r3 r7 r11 μ9 (fun r15 μ13 => (xIn r15) → xRan μ13 → (((r15 ≠ p2 → tX7_gather p1 μ13 (fun μ18 => xRan μ18 → (∀ μ20 : xM, μ20 = wi μ18 236 12 p3 → xRan μ20 → (tX7_awayFrom r15 p2 μ20 (fun r25 μ23 => (xIn r25) → xRan μ23 → (((r25 < 0 → Q (-2) μ23) ∧
  (¬ r25 < 0 → tX7_canBe p2 μ23 (fun r30 μ28 => (r30 = 0 ∨ r30 = 1) → xRan μ28 → (((r30 = 1 → tJ7_fill_53178 245 489 0 μ28 (fun μ33 => xRan μ33 → (tJ7_fill_53178 246 489 0 μ33 (fun μ35 => xRan μ35 → (∀ μ37 : xM, μ37 = wi μ35 236 9 0 → xRan μ37 → (∀ μ40 : xM, μ40 = wi μ37 236 10 0 → xRan μ40 → (tX7_putNow r15 μ40 (fun μ43 => xRan μ43 → (xLoop1 r25 μ43 (fun J100 l6_45 μ46 =>
  (xIn l6_45) ∧ (((31250 < l6_45 → Q (-2) μ46) ∧
  (¬ 31250 < l6_45 → (((μ46 236 9) ≤ 0 → Q (-2) μ46) ∧
  (¬ (μ46 236 9) ≤ 0 → tX7_goOnAll μ46 (fun μ52 => xRan μ52 → (tX7_isIn 245 489 p2 μ52 (fun r56 μ54 => (r56 = 0 ∨ r56 = 1) → xRan μ54 → (((r56 = 0 → tX7_takeLater μ54 (fun μ59 => xRan μ59 → (J100 (l6_45 + 2) μ59))) ∧
  (r56 = 1 → Q l6_45 μ54))))))))))))))))))))) ∧
  (r30 = 0 → Q (-2) μ28)))))))))))) ∧
  (r15 = p2 → Q 0 μ13))))))))))
def tX8_scoreOf (p1 : Nat) (p2 : Int) (p3 : Int) (μ : xM) (Q : Int → xM → Prop) : Prop := xRan μ → (xIn p2) → (xIn p3) → 
  (((μ p1 0) = 1 → tX1_chainOf p3 μ (fun r4 μ2 => (xIn r4) → xRan μ2 → (Q r4 μ2))) ∧
  ((μ p1 0) = 2 → tX2_valueOf 39 p3 μ (fun r9 μ7 => (xIn r9) → xRan μ7 → (tX4_at p1 p2 μ7 (fun r13 μ11 => (xIn r13) → xRan μ11 → (tX2_valueOf 39 r13 μ11 (fun r17 μ15 => (xIn r17) → xRan μ15 → ((xIn (r9 - r17)) ∧ (Q (r9 - r17) μ15)))))))) ∧
  ((μ p1 0) = 3 → tX0_behindNext p1 p2 p3 μ (fun r23 μ21 => (xIn r23) → xRan μ21 → ((xIn (1 + r23)) ∧ (Q (1 + r23) μ21)))) ∧
  (((μ p1 0) < 1 ∨ 3 < (μ p1 0)) → Q 0 μ))
def tX8_receive (p1 : Nat) (μ : xM) (Q : xM → Prop) : Prop := xRan μ → 
  tX2_isGuest 39 (μ p1 1) μ (fun r4 μ2 => (r4 = 0 ∨ r4 = 1) → xRan μ2 → (((r4 = 1 → tX2_firstOf 39 (μ2 p1 1) μ2 (fun r10 μ8 => (xIn r10) → xRan μ8 → (xLoop4 (-1) (-1) 0 0 μ8 (fun J38 l3_12 l4_13 l5_14 l6_15 μ16 =>
  (xIn l6_15) ∧ ((((μ16 39 0) ≤ l6_15 → (xIn l3_12) ∧ (((l3_12 < 0 → tX4_leaveStanding p1 μ16 (fun μ23 => xRan μ23 → (Q μ23))) ∧
  (¬ l3_12 < 0 → (((μ16 p1 0) ≠ 3 → (xIn l4_13) ∧ (tX4_sitDown p1 l3_12 l4_13 μ16 (fun μ28 => xRan μ28 → (Q μ28)))) ∧
  ((μ16 p1 0) = 3 → tX0_behindNext p1 (-1) 24 μ16 (fun r32 μ30 => (xIn r32) → xRan μ30 → ((xIn l5_14) ∧ (((r32 ≤ l5_14 → (xIn l4_13) ∧ (tX4_sitDown p1 l3_12 l4_13 μ30 (fun μ37 => xRan μ37 → (Q μ37)))) ∧
  (¬ r32 ≤ l5_14 → tX4_leaveStanding p1 μ30 (fun μ39 => xRan μ39 → (Q μ39))))))))))))) ∧
  (¬ (μ16 39 0) ≤ l6_15 → tX4_at p1 l6_15 μ16 (fun r43 μ41 => (xIn r43) → xRan μ41 → (xLoop4 l3_12 l4_13 l5_14 0 μ41 (fun J61 l3_45 l4_46 l5_47 l8_48 μ49 =>
  tX1_ups r43 μ49 (fun r53 μ51 => (xIn r53) → xRan μ51 → ((xIn l8_48) ∧ (((r53 ≤ l8_48 → J38 l3_45 l4_46 l5_47 (l6_15 + 1) μ51) ∧
  (¬ r53 ≤ l8_48 → tX1_byOf r43 l8_48 μ51 (fun r59 μ57 => (xIn r59) → xRan μ57 → (((r59 ≠ r10 → J61 l3_45 l4_46 l5_47 (l8_48 + 1) μ57) ∧
  (r59 = r10 → tX1_upOf r43 l8_48 μ57 (fun r64 μ62 => (xIn r64) → xRan μ62 → ((xIn l6_15) ∧ (tX8_scoreOf p1 l6_15 r64 μ62 (fun r69 μ67 => (xIn r69) → xRan μ67 → ((xIn l3_45) ∧ (((l3_45 < 0 → tX1_upOf r43 l8_48 μ67 (fun r75 μ73 => (xIn r75) → xRan μ73 → (J61 l6_15 r75 r69 (l8_48 + 1) μ73))) ∧
  (¬ l3_45 < 0 → (xIn l5_47) ∧ (((r69 ≤ l5_47 → J61 l3_45 l4_46 l5_47 (l8_48 + 1) μ67) ∧
  (¬ r69 ≤ l5_47 → tX1_upOf r43 l8_48 μ67 (fun r81 μ79 => (xIn r81) → xRan μ79 → (J61 l6_15 r81 r69 (l8_48 + 1) μ79)))))))))))))))))))))))))))))))) ∧
  (r4 = 0 → Q μ2))))
def tX9_addLetter (o : Nat) (p1 : Int) (μ : xM) (Q : xM → Prop) : Prop := xRan μ → (xIn p1) → 
  ((p1 < 0 → Q μ) ∧
  (¬ p1 < 0 → ((26 ≤ p1 → Q μ) ∧
  (¬ 26 ≤ p1 → (0 ≤ p1 ∧ p1 < 26) ∧ ((xIn ((μ (o + 1) p1.toNat) + 1)) ∧ (∀ μ6 : xM, μ6 = wi μ (o + 1) p1.toNat ((μ (o + 1) p1.toNat) + 1) → xRan μ6 → ((xIn ((μ6 o 13) + 1)) ∧ (∀ μ11 : xM, μ11 = wi μ6 o 13 ((μ6 o 13) + 1) → xRan μ11 → (Q μ11)))))))))
def tX9_gather (o : Nat) (p1 : Int) (μ : xM) (Q : xM → Prop) : Prop := xRan μ → (xIn p1) → 
  tJ7_fill_53178 (o + 1) 26 0 μ (fun μ1 => xRan μ1 → (∀ μ3 : xM, μ3 = wi μ1 o 13 0 → xRan μ3 → (xLoop1 0 μ3 (fun J15 l2_6 μ7 =>
  (xIn l2_6) ∧ ((((μ7 39 4) ≤ l2_6 → tX9_addLetter o p1 μ7 (fun μ12 => xRan μ12 → (∀ μ14 : xM, μ14 = wi μ12 o 12 0 → xRan μ14 → (∀ μ17 : xM, μ17 = wi μ14 o 14 0 → xRan μ17 → (∀ μ20 : xM, μ20 = wi μ17 o 15 0 → xRan μ20 → (∀ μ23 : xM, μ23 = wi μ20 o 17 0 → xRan μ23 → (tJ7_fill_53178 (o + 4) 3 24 μ23 (fun μ26 => xRan μ26 → (Q μ26))))))))) ∧
  (¬ (μ7 39 4) ≤ l2_6 → tX2_firstOf 39 l2_6 μ7 (fun r30 μ28 => (xIn r30) → xRan μ28 → (tX9_addLetter o r30 μ28 (fun μ32 => xRan μ32 → (J15 (l2_6 + 1) μ32)))))))))))
def tX9_offer (o : Nat) (p1 : Int) (μ : xM) (Q : xM → Prop) : Prop := xRan μ → (xIn p1) → 
  ((24 ≤ (μ o 12) → Q μ) ∧
  (¬ 24 ≤ (μ o 12) → (0 ≤ (μ o 12) ∧ (μ o 12) < 24) ∧ (∀ μ5 : xM, μ5 = wi μ (o + 2) ((μ o 12).toNat) p1 → xRan μ5 → ((xIn ((μ5 o 12) + 1)) ∧ (∀ μ10 : xM, μ10 = wi μ5 o 12 ((μ5 o 12) + 1) → xRan μ10 → (Q μ10))))))
def tX9_take_b52 (o : Nat) (p1 : Int) (b2 : Nat) (b3 : Int) (s1 : Int) (s2 : Int) (μ : xM) (Q : xM → Prop) (J11 : Int → xM → Prop) : Prop := xRan μ →
  (xIn (s1 + s2)) ∧ (∀ μ48 : xM, μ48 = wi μ o 15 (s1 + s2) → xRan μ48 → ((0 ≤ b3 ∧ b3 < 6) ∧ ((0 ≤ (μ48 b2 b3.toNat) ∧ (μ48 b2 b3.toNat) < 26) ∧ ((xIn ((μ48 (o + 1) ((μ48 b2 b3.toNat).toNat)) - 1)) ∧ (∀ μ56 : xM, μ56 = wi μ48 (o + 1) ((μ48 b2 b3.toNat).toNat) ((μ48 (o + 1) ((μ48 b2 b3.toNat).toNat)) - 1) → xRan μ56 → ((xIn ((μ56 o 14) + 1)) ∧ (∀ μ61 : xM, μ61 = wi μ56 o 14 ((μ56 o 14) + 1) → xRan μ61 → (J11 (b3 + 1) μ61))))))))
def tX9_take (o : Nat) (p1 : Int) (μ : xM) (Q : xM → Prop) : Prop := xRan μ → (xIn p1) → 
  tX2_glyphsOf 39 p1 μ (fun r3 μ1 => xRan μ1 → (lay r3 = (1, 6, []) ∧ r3 < 281) ∧ (xLoop1 0 μ1 (fun J11 l3_5 μ6 =>
  (xIn l3_5) ∧ (((6 ≤ l3_5 → tX2_valueOf 39 p1 μ6 (fun r13 μ11 => (xIn r13) → xRan μ11 → ((xIn ((μ6 o 17) + r13)) ∧ (∀ μ16 : xM, μ16 = wi μ11 o 17 ((μ6 o 17) + r13) → xRan μ16 → (Q μ16))))) ∧
  (¬ 6 ≤ l3_5 → (0 ≤ l3_5 ∧ l3_5 < 6) ∧ ((((μ6 r3 l3_5.toNat) < 0 → tX2_valueOf 39 p1 μ6 (fun r25 μ23 => (xIn r25) → xRan μ23 → ((xIn ((μ6 o 17) + r25)) ∧ (∀ μ28 : xM, μ28 = wi μ23 o 17 ((μ6 o 17) + r25) → xRan μ28 → (Q μ28))))) ∧
  (¬ (μ6 r3 l3_5.toNat) < 0 → ((26 ≤ (μ6 r3 l3_5.toNat) → tX2_valueOf 39 p1 μ6 (fun r36 μ34 => (xIn r36) → xRan μ34 → ((xIn ((μ6 o 17) + r36)) ∧ (∀ μ39 : xM, μ39 = wi μ34 o 17 ((μ6 o 17) + r36) → xRan μ39 → (Q μ39))))) ∧
  (¬ 26 ≤ (μ6 r3 l3_5.toNat) → (0 ≤ (μ6 r3 l3_5.toNat) ∧ (μ6 r3 l3_5.toNat) < 26) ∧ ((((μ6 (o + 1) ((μ6 r3 l3_5.toNat).toNat)) ≤ 0 → tX9_take_b52 o p1 r3 l3_5 (μ6 o 15) 1 μ6 Q J11) ∧
  (¬ (μ6 (o + 1) ((μ6 r3 l3_5.toNat).toNat)) ≤ 0 → tX9_take_b52 o p1 r3 l3_5 (μ6 o 15) 0 μ6 Q J11))))))))))))))
def tX9_giveBack (o : Nat) (p1 : Int) (μ : xM) (Q : xM → Prop) : Prop := xRan μ → (xIn p1) → 
  tX2_glyphsOf 39 p1 μ (fun r3 μ1 => xRan μ1 → (lay r3 = (1, 6, []) ∧ r3 < 281) ∧ (xLoop1 0 μ1 (fun J11 l3_5 μ6 =>
  (xIn l3_5) ∧ (((6 ≤ l3_5 → tX2_valueOf 39 p1 μ6 (fun r13 μ11 => (xIn r13) → xRan μ11 → ((xIn ((μ6 o 17) - r13)) ∧ (∀ μ16 : xM, μ16 = wi μ11 o 17 ((μ6 o 17) - r13) → xRan μ16 → (Q μ16))))) ∧
  (¬ 6 ≤ l3_5 → (0 ≤ l3_5 ∧ l3_5 < 6) ∧ ((((μ6 r3 l3_5.toNat) < 0 → tX2_valueOf 39 p1 μ6 (fun r25 μ23 => (xIn r25) → xRan μ23 → ((xIn ((μ6 o 17) - r25)) ∧ (∀ μ28 : xM, μ28 = wi μ23 o 17 ((μ6 o 17) - r25) → xRan μ28 → (Q μ28))))) ∧
  (¬ (μ6 r3 l3_5.toNat) < 0 → ((26 ≤ (μ6 r3 l3_5.toNat) → tX2_valueOf 39 p1 μ6 (fun r36 μ34 => (xIn r36) → xRan μ34 → ((xIn ((μ6 o 17) - r36)) ∧ (∀ μ39 : xM, μ39 = wi μ34 o 17 ((μ6 o 17) - r36) → xRan μ39 → (Q μ39))))) ∧
  (¬ 26 ≤ (μ6 r3 l3_5.toNat) → (0 ≤ (μ6 r3 l3_5.toNat) ∧ (μ6 r3 l3_5.toNat) < 26) ∧ ((xIn ((μ6 (o + 1) ((μ6 r3 l3_5.toNat).toNat)) + 1)) ∧ (∀ μ46 : xM, μ46 = wi μ6 (o + 1) ((μ6 r3 l3_5.toNat).toNat) ((μ6 (o + 1) ((μ6 r3 l3_5.toNat).toNat)) + 1) → xRan μ46 → ((0 ≤ (μ46 r3 l3_5.toNat) ∧ (μ46 r3 l3_5.toNat) < 26) ∧ ((((μ46 (o + 1) ((μ46 r3 l3_5.toNat).toNat)) ≤ 0 → (xIn ((μ46 o 15) - 1)) ∧ (∀ μ55 : xM, μ55 = wi μ46 o 15 ((μ46 o 15) - 1) → xRan μ55 → ((xIn ((μ55 o 14) - 1)) ∧ (∀ μ60 : xM, μ60 = wi μ55 o 14 ((μ55 o 14) - 1) → xRan μ60 → (J11 (l3_5 + 1) μ60))))) ∧
  (¬ (μ46 (o + 1) ((μ46 r3 l3_5.toNat).toNat)) ≤ 0 → (xIn ((μ46 o 15) - 0)) ∧ (∀ μ64 : xM, μ64 = wi μ46 o 15 ((μ46 o 15) - 0) → xRan μ64 → ((xIn ((μ64 o 14) - 1)) ∧ (∀ μ69 : xM, μ69 = wi μ64 o 14 ((μ64 o 14) - 1) → xRan μ69 → (J11 (l3_5 + 1) μ69)))))))))))))))))))))
def tX9_keep (o : Nat) (p1 : Int) (μ : xM) (Q : xM → Prop) : Prop := xRan μ → (xIn p1) → 
  xLoop1 0 μ (fun J2 l2_1 μ2 =>
  (xIn l2_1) ∧ (((3 ≤ l2_1 → Q μ2) ∧
  (¬ 3 ≤ l2_1 → ((p1 ≤ l2_1 → (0 ≤ l2_1 ∧ l2_1 < 3) ∧ (∀ μ8 : xM, μ8 = wi μ2 (o + 4) l2_1.toNat 24 → xRan μ8 → (J2 (l2_1 + 1) μ8))) ∧
  (¬ p1 ≤ l2_1 → (0 ≤ l2_1 ∧ l2_1 < 3) ∧ (∀ μ13 : xM, μ13 = wi μ2 (o + 4) l2_1.toNat (μ2 (o + 3) l2_1.toNat) → xRan μ13 → (J2 (l2_1 + 1) μ13))))))))
def tX9_judgeLack (o : Nat) (p1 : Int) (μ : xM) (Q : xM → Prop) : Prop := xRan μ → (xIn p1) → 
  (xIn ((μ o 14) - (μ o 15))) ∧ (((((μ o 14) - (μ o 15)) ≠ (μ o 13) → Q μ) ∧
  (((μ o 14) - (μ o 15)) = (μ o 13) → (((μ o 16) < (μ o 15) → Q μ) ∧
  (¬ (μ o 16) < (μ o 15) → ∀ μ10 : xM, μ10 = wi μ o 5 (μ o 15) → xRan μ10 → ((xIn ((μ10 o 15) - 1)) ∧ (∀ μ15 : xM, μ15 = wi μ10 o 16 ((μ10 o 15) - 1) → xRan μ15 → (tX9_keep o p1 μ15 (fun μ18 => xRan μ18 → (Q μ18))))))))))
def tX9_judgePlan_b38 (o : Nat) (p1 : Int)  (μ : xM) (Q : xM → Prop)  : Prop := xRan μ →
  (((μ o 1) < (μ o 14) → ∀ μ13 : xM, μ13 = wi μ o 1 (μ o 14) → xRan μ13 → (∀ μ17 : xM, μ17 = wi μ13 o 2 (μ13 o 17) → xRan μ17 → (tX9_keep o p1 μ17 (fun μ20 => xRan μ20 → (Q μ20))))) ∧
  (¬ (μ o 1) < (μ o 14) → (((μ o 14) ≠ (μ o 1) → Q μ) ∧
  ((μ o 14) = (μ o 1) → (((μ o 17) ≤ (μ o 2) → Q μ) ∧
  (¬ (μ o 17) ≤ (μ o 2) → ∀ μ29 : xM, μ29 = wi μ o 1 (μ o 14) → xRan μ29 → (∀ μ33 : xM, μ33 = wi μ29 o 2 (μ29 o 17) → xRan μ33 → (tX9_keep o p1 μ33 (fun μ36 => xRan μ36 → (Q μ36))))))))))
def tX9_judgePlan (o : Nat) (p1 : Int) (μ : xM) (Q : xM → Prop) : Prop := xRan μ → (xIn p1) → 
  ∀ μ3 : xM, μ3 = wi μ o 3 (max (μ o 3) (μ o 17)) → xRan μ3 → ((((μ3 o 14) ≠ (μ3 o 13) → tX9_judgePlan_b38 o p1 μ3 Q ) ∧
  ((μ3 o 14) = (μ3 o 13) → ∀ μ39 : xM, μ39 = wi μ3 o 4 (min (μ3 o 4) p1) → xRan μ39 → (tX9_judgePlan_b38 o p1 μ39 Q ))))
def tX9_spread_body (F : Nat → Int → Int → xM → (xM → Prop) → Prop) (o : Nat) (p1 : Int) (p2 : Int) (μ : xM) (Q : xM → Prop) : Prop := xRan μ → (xIn p1) → (xIn p2) → 
  ((p1 < 0 → (((μ o 11) = 0 → tX9_judgePlan o p1 μ (fun μ4 => xRan μ4 → (Q μ4))) ∧
  (¬ (μ o 11) = 0 → tX9_judgeLack o p1 μ (fun μ6 => xRan μ6 → (Q μ6))))) ∧
  (¬ p1 < 0 → (((μ 39 0) ≤ p1 → (((μ o 11) = 0 → tX9_judgePlan o p1 μ (fun μ12 => xRan μ12 → (Q μ12))) ∧
  (¬ (μ o 11) = 0 → tX9_judgeLack o p1 μ (fun μ14 => xRan μ14 → (Q μ14))))) ∧
  (¬ (μ 39 0) ≤ p1 → ((3 ≤ p1 → (((μ o 11) = 0 → tX9_judgePlan o p1 μ (fun μ19 => xRan μ19 → (Q μ19))) ∧
  (¬ (μ o 11) = 0 → tX9_judgeLack o p1 μ (fun μ21 => xRan μ21 → (Q μ21))))) ∧
  (¬ 3 ≤ p1 → xLoop1 (max p2 0) μ (fun J26 l3_23 μ24 =>
  (xIn l3_23) ∧ ((((μ24 o 12) ≤ l3_23 → (((μ24 o 11) = 0 → tX9_judgePlan o p1 μ24 (fun μ31 => xRan μ31 → (Q μ31))) ∧
  (¬ (μ24 o 11) = 0 → tX9_judgeLack o p1 μ24 (fun μ33 => xRan μ33 → (Q μ33))))) ∧
  (¬ (μ24 o 12) ≤ l3_23 → ((24 ≤ l3_23 → (((μ24 o 11) = 0 → tX9_judgePlan o p1 μ24 (fun μ38 => xRan μ38 → (Q μ38))) ∧
  (¬ (μ24 o 11) = 0 → tX9_judgeLack o p1 μ24 (fun μ40 => xRan μ40 → (Q μ40))))) ∧
  (¬ 24 ≤ l3_23 → (0 ≤ l3_23 ∧ l3_23 < 24) ∧ ((0 ≤ p1 ∧ p1 < 3) ∧ (∀ μ45 : xM, μ45 = wi μ24 (o + 3) p1.toNat (μ24 (o + 2) l3_23.toNat) → xRan μ45 → (tX9_take o (μ45 (o + 2) l3_23.toNat) μ45 (fun μ49 => xRan μ49 → ((((μ49 o 16) < (μ49 o 15) → tX9_giveBack o (μ49 (o + 2) l3_23.toNat) μ49 (fun μ55 => xRan μ55 → (J26 (l3_23 + 1) μ55))) ∧
  (¬ (μ49 o 16) < (μ49 o 15) → (xIn (p1 + 1)) ∧ (F o (p1 + 1) l3_23 μ49 (fun μ58 => xRan μ58 → (tX9_giveBack o (μ58 (o + 2) l3_23.toNat) μ58 (fun μ61 => xRan μ61 → (J26 (l3_23 + 1) μ61))))))))))))))))))))))))
def tX9_spread : Nat → Nat → Int → Int → xM → (xM → Prop) → Prop
  | 0, _, _, _, _, _ => False
  | n + 1, o, p1, p2, μ, Q => tX9_spread_body (tX9_spread n) o p1 p2 μ Q
def tX9_findPlans (o : Nat) (μ : xM) (Q : xM → Prop) : Prop := xRan μ → 
  ∀ μ1 : xM, μ1 = wi μ o 11 0 → xRan μ1 → (∀ μ4 : xM, μ4 = wi μ1 o 16 0 → xRan μ4 → (∀ μ7 : xM, μ7 = wi μ4 o 1 (-1) → xRan μ7 → (∀ μ10 : xM, μ10 = wi μ7 o 2 (-1) → xRan μ10 → (∀ μ13 : xM, μ13 = wi μ10 o 3 0 → xRan μ13 → (∀ μ16 : xM, μ16 = wi μ13 o 4 4 → xRan μ16 → (tX9_spread 6 o 0 0 μ16 (fun μ19 => xRan μ19 → (∀ μ21 : xM, μ21 = wi μ19 o 0 1 → xRan μ21 → (Q μ21)))))))))
def tX9_findLack (o : Nat) (μ : xM) (Q : xM → Prop) : Prop := xRan μ → 
  ∀ μ1 : xM, μ1 = wi μ o 11 1 → xRan μ1 → (∀ μ4 : xM, μ4 = wi μ1 o 16 18 → xRan μ4 → (∀ μ7 : xM, μ7 = wi μ4 o 5 (-1) → xRan μ7 → (tX9_spread 6 o 0 0 μ7 (fun μ10 => xRan μ10 → (xLoop1 0 μ10 (fun J24 l1_12 μ13 =>
  (xIn l1_12) ∧ (((3 ≤ l1_12 → ∀ μ17 : xM, μ17 = wi μ13 o 0 1 → xRan μ17 → (Q μ17)) ∧
  (¬ 3 ≤ l1_12 → (0 ≤ l1_12 ∧ l1_12 < 3) ∧ (tX9_take o (μ13 (o + 4) l1_12.toNat) μ13 (fun μ22 => xRan μ22 → (J24 (l1_12 + 1) μ22))))))))))))
def tX9_foundAt (o : Nat) (p1 : Int) (μ : xM) (Q : Int → xM → Prop) : Prop := xRan μ → (xIn p1) → 
  ((p1 < 0 → Q 24 μ) ∧
  (¬ p1 < 0 → ((3 ≤ p1 → Q 24 μ) ∧
  (¬ 3 ≤ p1 → (0 ≤ p1 ∧ p1 < 3) ∧ (Q (μ (o + 4) p1.toNat) μ)))))
def tX9_lackingAt (o : Nat) (p1 : Int) (μ : xM) (Q : Int → xM → Prop) : Prop := xRan μ → (xIn p1) → 
  xLoop2 0 0 μ (fun J4 l2_1 l3_2 μ3 =>
  (xIn l3_2) ∧ (((26 ≤ l3_2 → Q (-1) μ3) ∧
  (¬ 26 ≤ l3_2 → (0 ≤ l3_2 ∧ l3_2 < 26) ∧ ((xIn (-(μ3 (o + 1) l3_2.toNat))) ∧ ((xIn (l2_1 + (max 0 (-(μ3 (o + 1) l3_2.toNat))))) ∧ ((((l2_1 + (max 0 (-(μ3 (o + 1) l3_2.toNat)))) ≤ p1 → J4 (l2_1 + (max 0 (-(μ3 (o + 1) l3_2.toNat)))) (l3_2 + 1) μ3) ∧
  (¬ (l2_1 + (max 0 (-(μ3 (o + 1) l3_2.toNat)))) ≤ p1 → Q l3_2 μ3)))))))))
def tX10_feed (p1 : Int) (p2 : Int) (p3 : Int) (p4 : Int) (p5 : Int) (μ : xM) (Q : Int → xM → Prop) : Prop := xRan μ → (xIn p1) → (xIn p2) → (xIn p3) → (xIn p4) → (xIn p5) → 
  tX5_append p1 p2 p3 p4 p5 μ (fun r3 μ1 => (xIn r3) → xRan μ1 → (Q r3 μ1))
def tX10_refused (p1 : Int) (μ : xM) (Q : Int → xM → Prop) : Prop := xRan μ → (xIn p1) → 
  ∀ μ1 : xM, μ1 = wi μ 0 18 p1 → xRan μ1 → (Q (-1) μ1)
def tX10_renew  (μ : xM) (Q : xM → Prop) : Prop := xRan μ → 
  ∀ μ1 : xM, μ1 = wi μ 0 17 0 → xRan μ1 → (∀ μ4 : xM, μ4 = wi μ1 211 0 0 → xRan μ4 → (∀ μ7 : xM, μ7 = wi μ4 216 0 0 → xRan μ7 → (∀ μ10 : xM, μ10 = wi μ7 221 0 0 → xRan μ10 → (tJ7_fill_53178 231 26 (-1) μ10 (fun μ13 => xRan μ13 → (tX0_forget μ13 (fun μ15 => xRan μ15 → (Q μ15))))))))
def tX10_granted (p1 : Int) (μ : xM) (Q : Int → xM → Prop) : Prop := xRan μ → (xIn p1) → 
  ∀ μ1 : xM, μ1 = wi μ 0 18 0 → xRan μ1 → (Q p1 μ1)
def tX10_inn (p1 : Int) (μ : xM) (Q : Int → xM → Prop) : Prop := xRan μ → (xIn p1) → 
  ((p1 < 0 → tX10_refused 2 μ (fun r4 μ2 => (xIn r4) → xRan μ2 → (Q r4 μ2))) ∧
  (¬ p1 < 0 → ((p1 ≤ (μ 35 0) → tX5_readInn p1 μ (fun r10 μ8 => (r10 = 0 ∨ r10 = 1) → xRan μ8 → (((r10 = 1 → tX2_copyFrom 39 1 μ8 (fun μ13 => xRan μ13 → (tX1_weave μ13 (fun μ15 => xRan μ15 → (tX4_begin 249 0 μ15 (fun μ17 => xRan μ17 → (tX10_renew μ17 (fun μ19 => xRan μ19 → (tX10_granted (μ19 39 4) μ19 (fun r24 μ22 => (xIn r24) → xRan μ22 → (Q r24 μ22))))))))))) ∧
  (r10 = 0 → tX10_refused 4 μ8 (fun r28 μ26 => (xIn r28) → xRan μ26 → (Q r28 μ26))))))) ∧
  (¬ p1 ≤ (μ 35 0) → tX10_refused 2 μ (fun r32 μ30 => (xIn r32) → xRan μ30 → (Q r32 μ30))))))
def tX10_fault  (μ : xM) (Q : Int → xM → Prop) : Prop := xRan μ → 
  Q (μ 35 1) μ
def tX10_where  (μ : xM) (Q : Int → xM → Prop) : Prop := xRan μ → 
  (((μ 0 18) ≠ 4 → Q (-1) μ) ∧
  ((μ 0 18) = 4 → Q (μ 35 2) μ))
def tX10_word (p1 : Int) (p2 : Int) (μ : xM) (Q : Int → xM → Prop) : Prop := xRan μ → (xIn p1) → (xIn p2) → 
  tX2_isWord 39 p1 μ (fun r3 μ1 => (r3 = 0 ∨ r3 = 1) → xRan μ1 → (((r3 = 1 → ((p2 = 0 → tX2_lengthOf 39 p1 μ1 (fun r8 μ6 => (xIn r8) → xRan μ6 → (tX10_granted r8 μ6 (fun r12 μ10 => (xIn r12) → xRan μ10 → (Q r12 μ10))))) ∧
  (p2 = 1 → tX2_valueOf 39 p1 μ1 (fun r17 μ15 => (xIn r17) → xRan μ15 → (tX10_granted r17 μ15 (fun r21 μ19 => (xIn r21) → xRan μ19 → (Q r21 μ19))))) ∧
  (p2 = 2 → tX2_isBarred 39 p1 μ1 (fun r26 μ24 => (r26 = 0 ∨ r26 = 1) → xRan μ24 → (((r26 = 0 → tX10_granted 0 μ24 (fun r31 μ29 => (xIn r31) → xRan μ29 → (Q r31 μ29))) ∧
  (r26 = 1 → tX10_granted 1 μ24 (fun r35 μ33 => (xIn r35) → xRan μ33 → (Q r35 μ33))))))) ∧
  (p2 = 3 → tX2_isGood 39 p1 μ1 (fun r40 μ38 => (r40 = 0 ∨ r40 = 1) → xRan μ38 → (((r40 = 0 → tX10_granted 0 μ38 (fun r45 μ43 => (xIn r45) → xRan μ43 → (Q r45 μ43))) ∧
  (r40 = 1 → tX10_granted 1 μ38 (fun r49 μ47 => (xIn r49) → xRan μ47 → (Q r49 μ47))))))) ∧
  ((p2 < 0 ∨ 3 < p2) → tX10_refused 1 μ1 (fun r54 μ52 => (xIn r54) → xRan μ52 → (Q r54 μ52))))) ∧
  (r3 = 0 → tX10_refused 1 μ1 (fun r59 μ57 => (xIn r59) → xRan μ57 → (Q r59 μ57))))))
def tX10_letter (p1 : Int) (p2 : Int) (μ : xM) (Q : Int → xM → Prop) : Prop := xRan μ → (xIn p1) → (xIn p2) → 
  tX2_isWord 39 p1 μ (fun r3 μ1 => (r3 = 0 ∨ r3 = 1) → xRan μ1 → (((r3 = 0 → tX10_refused 1 μ1 (fun r8 μ6 => (xIn r8) → xRan μ6 → (Q r8 μ6))) ∧
  (r3 = 1 → ((p2 < 0 → tX10_refused 1 μ1 (fun r13 μ11 => (xIn r13) → xRan μ11 → (Q r13 μ11))) ∧
  (¬ p2 < 0 → tX2_lengthOf 39 p1 μ1 (fun r17 μ15 => (xIn r17) → xRan μ15 → (((p2 < r17 → tX2_glyphOf 39 p1 p2 μ15 (fun r22 μ20 => (xIn r22) → xRan μ20 → (tX10_granted r22 μ20 (fun r26 μ24 => (xIn r26) → xRan μ24 → (Q r26 μ24))))) ∧
  (¬ p2 < r17 → tX10_refused 1 μ15 (fun r30 μ28 => (xIn r30) → xRan μ28 → (Q r30 μ28))))))))))))
def tX10_grows (p1 : Int) (p2 : Int) (μ : xM) (Q : Int → xM → Prop) : Prop := xRan μ → (xIn p1) → (xIn p2) → 
  tX2_isWord 39 p1 μ (fun r3 μ1 => (r3 = 0 ∨ r3 = 1) → xRan μ1 → (((r3 = 0 → tX10_refused 1 μ1 (fun r8 μ6 => (xIn r8) → xRan μ6 → (Q r8 μ6))) ∧
  (r3 = 1 → tX2_isWord 39 p2 μ1 (fun r12 μ10 => (r12 = 0 ∨ r12 = 1) → xRan μ10 → (((r12 = 1 → tX2_isGood 39 p1 μ10 (fun r17 μ15 => (r17 = 0 ∨ r17 = 1) → xRan μ15 → (((r17 = 0 → tX10_refused 5 μ15 (fun r22 μ20 => (xIn r22) → xRan μ20 → (Q r22 μ20))) ∧
  (r17 = 1 → tX2_isGood 39 p2 μ15 (fun r26 μ24 => (r26 = 0 ∨ r26 = 1) → xRan μ24 → (((r26 = 1 → tX1_letterOf p1 p2 μ24 (fun r31 μ29 => (xIn r31) → xRan μ29 → (((0 ≤ r31 → tX10_granted r31 μ29 (fun r36 μ34 => (xIn r36) → xRan μ34 → (Q r36 μ34))) ∧
  (¬ 0 ≤ r31 → tX10_granted (-2) μ29 (fun r40 μ38 => (xIn r40) → xRan μ38 → (Q r40 μ38))))))) ∧
  (r26 = 0 → tX10_refused 5 μ24 (fun r44 μ42 => (xIn r44) → xRan μ42 → (Q r44 μ42))))))))))) ∧
  (r12 = 0 → tX10_refused 1 μ10 (fun r48 μ46 => (xIn r48) → xRan μ46 → (Q r48 μ46))))))))))
def tX10_chain (p1 : Int) (μ : xM) (Q : Int → xM → Prop) : Prop := xRan μ → (xIn p1) → 
  tX2_isWord 39 p1 μ (fun r3 μ1 => (r3 = 0 ∨ r3 = 1) → xRan μ1 → (((r3 = 1 → tX2_isGood 39 p1 μ1 (fun r8 μ6 => (r8 = 0 ∨ r8 = 1) → xRan μ6 → (((r8 = 1 → tX1_chainOf p1 μ6 (fun r13 μ11 => (xIn r13) → xRan μ11 → (tX10_granted r13 μ11 (fun r17 μ15 => (xIn r17) → xRan μ15 → (Q r17 μ15))))) ∧
  (r8 = 0 → tX10_refused 5 μ6 (fun r21 μ19 => (xIn r21) → xRan μ19 → (Q r21 μ19))))))) ∧
  (r3 = 0 → tX10_refused 1 μ1 (fun r25 μ23 => (xIn r25) → xRan μ23 → (Q r25 μ23))))))
def tX10_ladder (p1 : Int) (p2 : Int) (μ : xM) (Q : Int → xM → Prop) : Prop := xRan μ → (xIn p1) → (xIn p2) → 
  tX2_isWord 39 p1 μ (fun r3 μ1 => (r3 = 0 ∨ r3 = 1) → xRan μ1 → (((r3 = 0 → tX10_refused 1 μ1 (fun r8 μ6 => (xIn r8) → xRan μ6 → (Q r8 μ6))) ∧
  (r3 = 1 → tX2_isWord 39 p2 μ1 (fun r12 μ10 => (r12 = 0 ∨ r12 = 1) → xRan μ10 → (((r12 = 1 → tX2_isGood 39 p1 μ10 (fun r17 μ15 => (r17 = 0 ∨ r17 = 1) → xRan μ15 → (((r17 = 0 → tX10_refused 5 μ15 (fun r22 μ20 => (xIn r22) → xRan μ20 → (Q r22 μ20))) ∧
  (r17 = 1 → tX2_isGood 39 p2 μ15 (fun r26 μ24 => (r26 = 0 ∨ r26 = 1) → xRan μ24 → (((r26 = 1 → tX3_measure p2 μ24 (fun μ29 => xRan μ29 → (tX3_farOf p1 μ29 (fun r33 μ31 => (xIn r33) → xRan μ31 → (((0 ≤ r33 → tX10_granted r33 μ31 (fun r38 μ36 => (xIn r38) → xRan μ36 → (Q r38 μ36))) ∧
  (¬ 0 ≤ r33 → tX10_granted (-2) μ31 (fun r42 μ40 => (xIn r42) → xRan μ40 → (Q r42 μ40))))))))) ∧
  (r26 = 0 → tX10_refused 5 μ24 (fun r46 μ44 => (xIn r46) → xRan μ44 → (Q r46 μ44))))))))))) ∧
  (r12 = 0 → tX10_refused 1 μ10 (fun r50 μ48 => (xIn r50) → xRan μ48 → (Q r50 μ48))))))))))
def tX10_rung (p1 : Int) (p2 : Int) (p3 : Int) (μ : xM) (Q : Int → xM → Prop) : Prop := xRan μ → (xIn p1) → (xIn p2) → (xIn p3) → 
  tX2_isWord 39 p1 μ (fun r3 μ1 => (r3 = 0 ∨ r3 = 1) → xRan μ1 → (((r3 = 0 → tX10_refused 1 μ1 (fun r8 μ6 => (xIn r8) → xRan μ6 → (Q r8 μ6))) ∧
  (r3 = 1 → tX2_isWord 39 p2 μ1 (fun r12 μ10 => (r12 = 0 ∨ r12 = 1) → xRan μ10 → (((r12 = 0 → tX10_refused 1 μ10 (fun r17 μ15 => (xIn r17) → xRan μ15 → (Q r17 μ15))) ∧
  (r12 = 1 → ((0 ≤ p3 → tX2_isGood 39 p1 μ10 (fun r22 μ20 => (r22 = 0 ∨ r22 = 1) → xRan μ20 → (((r22 = 0 → tX10_refused 5 μ20 (fun r27 μ25 => (xIn r27) → xRan μ25 → (Q r27 μ25))) ∧
  (r22 = 1 → tX2_isGood 39 p2 μ20 (fun r31 μ29 => (r31 = 0 ∨ r31 = 1) → xRan μ29 → (((r31 = 1 → tX3_measure p2 μ29 (fun μ34 => xRan μ34 → (tX3_farOf p1 μ34 (fun r38 μ36 => (xIn r38) → xRan μ36 → (((0 ≤ r38 → ((p3 ≤ r38 → tX3_after p1 p3 μ36 (fun r44 μ42 => (xIn r44) → xRan μ42 → (tX10_granted r44 μ42 (fun r48 μ46 => (xIn r48) → xRan μ46 → (Q r48 μ46))))) ∧
  (¬ p3 ≤ r38 → tX10_refused 1 μ36 (fun r52 μ50 => (xIn r52) → xRan μ50 → (Q r52 μ50))))) ∧
  (¬ 0 ≤ r38 → tX10_refused 6 μ36 (fun r56 μ54 => (xIn r56) → xRan μ54 → (Q r56 μ54))))))))) ∧
  (r31 = 0 → tX10_refused 5 μ29 (fun r60 μ58 => (xIn r60) → xRan μ58 → (Q r60 μ58))))))))))) ∧
  (¬ 0 ≤ p3 → tX10_refused 1 μ10 (fun r64 μ62 => (xIn r64) → xRan μ62 → (Q r64 μ62))))))))))))
def tX10_grundy_b32 (p1 : Int)  (μ : xM) (Q : Int → xM → Prop)  : Prop := xRan μ →
  ((p1 = (-1) → ((p1 ≠ (-1) → tX1_nimOf p1 μ (fun r15 μ13 => (xIn r15) → xRan μ13 → (tX10_granted r15 μ13 (fun r19 μ17 => (xIn r19) → xRan μ17 → (Q r19 μ17))))) ∧
  (p1 = (-1) → tX1_nimOf 24 μ (fun r23 μ21 => (xIn r23) → xRan μ21 → (tX10_granted r23 μ21 (fun r27 μ25 => (xIn r27) → xRan μ25 → (Q r27 μ25))))))) ∧
  (¬ p1 = (-1) → tX2_isGood 39 p1 μ (fun r31 μ29 => (r31 = 0 ∨ r31 = 1) → xRan μ29 → (((r31 = 1 → ((p1 ≠ (-1) → tX1_nimOf p1 μ29 (fun r37 μ35 => (xIn r37) → xRan μ35 → (tX10_granted r37 μ35 (fun r41 μ39 => (xIn r41) → xRan μ39 → (Q r41 μ39))))) ∧
  (p1 = (-1) → tX1_nimOf 24 μ29 (fun r45 μ43 => (xIn r45) → xRan μ43 → (tX10_granted r45 μ43 (fun r49 μ47 => (xIn r49) → xRan μ47 → (Q r49 μ47))))))) ∧
  (r31 = 0 → tX10_refused 5 μ29 (fun r53 μ51 => (xIn r53) → xRan μ51 → (Q r53 μ51))))))))
def tX10_grundy (p1 : Int) (μ : xM) (Q : Int → xM → Prop) : Prop := xRan μ → (xIn p1) → 
  tX2_isOpen 39 μ (fun r3 μ1 => (r3 = 0 ∨ r3 = 1) → xRan μ1 → (((r3 = 0 → tX10_refused 1 μ1 (fun r8 μ6 => (xIn r8) → xRan μ6 → (Q r8 μ6))) ∧
  (r3 = 1 → ((p1 = (-1) → tX10_grundy_b32 p1 μ1 Q ) ∧
  (¬ p1 = (-1) → tX2_isWord 39 p1 μ1 (fun r57 μ55 => (r57 = 0 ∨ r57 = 1) → xRan μ55 → (((r57 = 1 → tX10_grundy_b32 p1 μ55 Q ) ∧
  (r57 = 0 → tX10_refused 1 μ55 (fun r62 μ60 => (xIn r62) → xRan μ60 → (Q r62 μ60))))))))))))
def tX10_offerGood (p1 : Nat) (p2 : Int) (μ : xM) (Q : xM → Prop) : Prop := xRan μ → (xIn p2) → 
  xLoop1 0 μ (fun J2 l3_1 μ2 =>
  (xIn l3_1) ∧ ((((μ2 39 3) ≤ l3_1 → Q μ2) ∧
  (¬ (μ2 39 3) ≤ l3_1 → tX2_isGood 39 l3_1 μ2 (fun r9 μ7 => (r9 = 0 ∨ r9 = 1) → xRan μ7 → (((r9 = 0 → J2 (l3_1 + 1) μ7) ∧
  (r9 = 1 → tX1_riseOf l3_1 μ7 (fun r14 μ12 => (xIn r14) → xRan μ12 → (((p2 < r14 → J2 (l3_1 + 1) μ12) ∧
  (¬ p2 < r14 → tX9_offer p1 l3_1 μ12 (fun μ17 => xRan μ17 → (J2 (l3_1 + 1) μ17))))))))))))))
def tX10_bestPlan  (μ : xM) (Q : Nat → xM → Prop) : Prop := xRan μ → 
  (((μ 211 0) ≠ 0 → Q 211 μ) ∧
  ((μ 211 0) = 0 → tX9_gather 211 (-1) μ (fun μ3 => xRan μ3 → (tX10_offerGood 211 6 μ3 (fun μ5 => xRan μ5 → (tX9_findPlans 211 μ5 (fun μ7 => xRan μ7 → (Q 211 μ7))))))))
def tX10_most  (μ : xM) (Q : Int → xM → Prop) : Prop := xRan μ → 
  tX2_isOpen 39 μ (fun r3 μ1 => (r3 = 0 ∨ r3 = 1) → xRan μ1 → (((r3 = 0 → tX10_refused 1 μ1 (fun r8 μ6 => (xIn r8) → xRan μ6 → (Q r8 μ6))) ∧
  (r3 = 1 → tX10_bestPlan μ1 (fun r12 μ10 => xRan μ10 → r12 = 211 ∧ (tX10_granted (μ10 211 1) μ10 (fun r17 μ15 => (xIn r17) → xRan μ15 → (Q r17 μ15))))))))
def tX10_worth  (μ : xM) (Q : Int → xM → Prop) : Prop := xRan μ → 
  tX2_isOpen 39 μ (fun r3 μ1 => (r3 = 0 ∨ r3 = 1) → xRan μ1 → (((r3 = 0 → tX10_refused 1 μ1 (fun r8 μ6 => (xIn r8) → xRan μ6 → (Q r8 μ6))) ∧
  (r3 = 1 → tX10_bestPlan μ1 (fun r12 μ10 => xRan μ10 → r12 = 211 ∧ (tX10_granted (μ10 211 2) μ10 (fun r17 μ15 => (xIn r17) → xRan μ15 → (Q r17 μ15))))))))
def tX10_plan (p1 : Int) (μ : xM) (Q : Int → xM → Prop) : Prop := xRan μ → (xIn p1) → 
  ((p1 < 0 → tX10_refused 1 μ (fun r4 μ2 => (xIn r4) → xRan μ2 → (Q r4 μ2))) ∧
  (¬ p1 < 0 → ((p1 < (μ 39 0) → tX10_bestPlan μ (fun r10 μ8 => xRan μ8 → r10 = 211 ∧ (tX9_foundAt 211 p1 μ8 (fun r14 μ12 => (xIn r14) → xRan μ12 → (((r14 ≠ 24 → tX10_granted r14 μ12 (fun r19 μ17 => (xIn r19) → xRan μ17 → (Q r19 μ17))) ∧
  (r14 = 24 → tX10_granted (-2) μ12 (fun r23 μ21 => (xIn r23) → xRan μ21 → (Q r23 μ21))))))))) ∧
  (¬ p1 < (μ 39 0) → tX10_refused 1 μ (fun r27 μ25 => (xIn r27) → xRan μ25 → (Q r27 μ25))))))
def tX10_richest  (μ : xM) (Q : Int → xM → Prop) : Prop := xRan μ → 
  tX2_isOpen 39 μ (fun r3 μ1 => (r3 = 0 ∨ r3 = 1) → xRan μ1 → (((r3 = 0 → tX10_refused 1 μ1 (fun r8 μ6 => (xIn r8) → xRan μ6 → (Q r8 μ6))) ∧
  (r3 = 1 → tX10_bestPlan μ1 (fun r12 μ10 => xRan μ10 → r12 = 211 ∧ (tX10_granted (μ10 211 3) μ10 (fun r17 μ15 => (xIn r17) → xRan μ15 → (Q r17 μ15))))))))
def tX10_fewest  (μ : xM) (Q : Int → xM → Prop) : Prop := xRan μ → 
  tX2_isOpen 39 μ (fun r3 μ1 => (r3 = 0 ∨ r3 = 1) → xRan μ1 → (((r3 = 1 → tX10_bestPlan μ1 (fun r8 μ6 => xRan μ6 → r8 = 211 ∧ ((((μ6 211 4) ≤ 3 → tX10_granted (μ6 211 4) μ6 (fun r14 μ12 => (xIn r14) → xRan μ12 → (Q r14 μ12))) ∧
  (¬ (μ6 211 4) ≤ 3 → tX10_granted (-2) μ6 (fun r18 μ16 => (xIn r18) → xRan μ16 → (Q r18 μ16))))))) ∧
  (r3 = 0 → tX10_refused 1 μ1 (fun r22 μ20 => (xIn r22) → xRan μ20 → (Q r22 μ20))))))
def tX10_lackingPlan  (μ : xM) (Q : Nat → xM → Prop) : Prop := xRan μ → 
  (((μ 221 0) ≠ 0 → Q 221 μ) ∧
  ((μ 221 0) = 0 → tX9_gather 221 (-1) μ (fun μ3 => xRan μ3 → (tX10_offerGood 221 6 μ3 (fun μ5 => xRan μ5 → (tX9_findLack 221 μ5 (fun μ7 => xRan μ7 → (Q 221 μ7))))))))
def tX10_wanted  (μ : xM) (Q : Int → xM → Prop) : Prop := xRan μ → 
  tX2_isOpen 39 μ (fun r3 μ1 => (r3 = 0 ∨ r3 = 1) → xRan μ1 → (((r3 = 1 → tX10_lackingPlan μ1 (fun r8 μ6 => xRan μ6 → r8 = 221 ∧ (((0 ≤ (μ6 221 5) → tX10_granted (μ6 221 5) μ6 (fun r14 μ12 => (xIn r14) → xRan μ12 → (Q r14 μ12))) ∧
  (¬ 0 ≤ (μ6 221 5) → tX10_granted (-2) μ6 (fun r18 μ16 => (xIn r18) → xRan μ16 → (Q r18 μ16))))))) ∧
  (r3 = 0 → tX10_refused 1 μ1 (fun r22 μ20 => (xIn r22) → xRan μ20 → (Q r22 μ20))))))
def tX10_wants (p1 : Int) (μ : xM) (Q : Int → xM → Prop) : Prop := xRan μ → (xIn p1) → 
  tX2_isOpen 39 μ (fun r3 μ1 => (r3 = 0 ∨ r3 = 1) → xRan μ1 → (((r3 = 0 → tX10_refused 1 μ1 (fun r8 μ6 => (xIn r8) → xRan μ6 → (Q r8 μ6))) ∧
  (r3 = 1 → ((0 ≤ p1 → tX10_lackingPlan μ1 (fun r13 μ11 => xRan μ11 → r13 = 221 ∧ (((0 ≤ (μ11 221 5) → ((p1 < (μ11 221 5) → tX9_lackingAt 221 p1 μ11 (fun r20 μ18 => (xIn r20) → xRan μ18 → (tX10_granted r20 μ18 (fun r24 μ22 => (xIn r24) → xRan μ22 → (Q r24 μ22))))) ∧
  (¬ p1 < (μ11 221 5) → tX10_refused 1 μ11 (fun r28 μ26 => (xIn r28) → xRan μ26 → (Q r28 μ26))))) ∧
  (¬ 0 ≤ (μ11 221 5) → tX10_refused 6 μ11 (fun r32 μ30 => (xIn r32) → xRan μ30 → (Q r32 μ30))))))) ∧
  (¬ 0 ≤ p1 → tX10_refused 1 μ1 (fun r36 μ34 => (xIn r36) → xRan μ34 → (Q r36 μ34))))))))
def tX10_gains (p1 : Int) (μ : xM) (Q : Int → xM → Prop) : Prop := xRan μ → (xIn p1) → 
  tX2_isOpen 39 μ (fun r3 μ1 => (r3 = 0 ∨ r3 = 1) → xRan μ1 → (((r3 = 1 → ((p1 < 0 → tX10_refused 2 μ1 (fun r9 μ7 => (xIn r9) → xRan μ7 → (Q r9 μ7))) ∧
  (¬ p1 < 0 → ((p1 < 26 → (0 ≤ p1 ∧ p1 < 26) ∧ (((0 ≤ (μ1 231 p1.toNat) → tX10_granted (μ1 231 p1.toNat) μ1 (fun r18 μ16 => (xIn r18) → xRan μ16 → (Q r18 μ16))) ∧
  (¬ 0 ≤ (μ1 231 p1.toNat) → tX9_gather 226 p1 μ1 (fun μ20 => xRan μ20 → (tX10_offerGood 226 6 μ20 (fun μ22 => xRan μ22 → (tX9_findPlans 226 μ22 (fun μ24 => xRan μ24 → (tX10_bestPlan μ24 (fun r29 μ27 => xRan μ27 → r29 = 211 ∧ ((xIn ((μ24 226 1) - (μ27 211 1))) ∧ (∀ μ33 : xM, μ33 = wi μ27 231 p1.toNat ((μ24 226 1) - (μ27 211 1)) → xRan μ33 → (tX10_granted (μ33 231 p1.toNat) μ33 (fun r39 μ37 => (xIn r39) → xRan μ37 → (Q r39 μ37)))))))))))))))) ∧
  (¬ p1 < 26 → tX10_refused 2 μ1 (fun r43 μ41 => (xIn r43) → xRan μ41 → (Q r43 μ41))))))) ∧
  (r3 = 0 → tX10_refused 1 μ1 (fun r47 μ45 => (xIn r47) → xRan μ45 → (Q r47 μ45))))))
def tX10_isHost (p1 : Int) (μ : xM) (Q : Int → xM → Prop) : Prop := xRan μ → (xIn p1) → 
  ((p1 < 0 → Q 0 μ) ∧
  (¬ p1 < 0 → ((3 < p1 → Q 0 μ) ∧
  (¬ 3 < p1 → Q 1 μ))))
def tX10_denied (p1 : Int) (μ : xM) (Q : Int → xM → Prop) : Prop := xRan μ → (xIn p1) → 
  ∀ μ1 : xM, μ1 = wi μ 0 18 p1 → xRan μ1 → (Q 0 μ1)
def tX10_allowed  (μ : xM) (Q : Int → xM → Prop) : Prop := xRan μ → 
  ∀ μ1 : xM, μ1 = wi μ 0 18 0 → xRan μ1 → (Q 1 μ1)
def tX10_night (p1 : Int) (μ : xM) (Q : Int → xM → Prop) : Prop := xRan μ → (xIn p1) → 
  tX2_isOpen 39 μ (fun r3 μ1 => (r3 = 0 ∨ r3 = 1) → xRan μ1 → (((r3 = 0 → tX10_denied 1 μ1 (fun r8 μ6 => (r8 = 0 ∨ r8 = 1) → xRan μ6 → (Q r8 μ6))) ∧
  (r3 = 1 → tX10_isHost p1 μ1 (fun r12 μ10 => (r12 = 0 ∨ r12 = 1) → xRan μ10 → (((r12 = 1 → tX4_begin 249 p1 μ10 (fun μ15 => xRan μ15 → (tX10_allowed μ15 (fun r19 μ17 => (r19 = 0 ∨ r19 = 1) → xRan μ17 → (Q r19 μ17))))) ∧
  (r12 = 0 → tX10_denied 1 μ10 (fun r23 μ21 => (r23 = 0 ∨ r23 = 1) → xRan μ21 → (Q r23 μ21))))))))))
def tX10_come (p1 : Int) (μ : xM) (Q : Int → xM → Prop) : Prop := xRan μ → (xIn p1) → 
  tX2_isOpen 39 μ (fun r3 μ1 => (r3 = 0 ∨ r3 = 1) → xRan μ1 → (((r3 = 1 → ((p1 < 1 → tX10_refused 2 μ1 (fun r9 μ7 => (xIn r9) → xRan μ7 → (Q r9 μ7))) ∧
  (¬ p1 < 1 → ((p1 ≤ 8 → (((μ1 249 1) < (μ1 39 4) → xLoop1 0 μ1 (fun J61 l3_15 μ16 =>
  (xIn l3_15) ∧ (((p1 ≤ l3_15 → (xIn ((μ16 249 1) - (μ1 249 1))) ∧ (tX10_granted ((μ16 249 1) - (μ1 249 1)) μ16 (fun r24 μ22 => (xIn r24) → xRan μ22 → (Q r24 μ22)))) ∧
  (¬ p1 ≤ l3_15 → (((μ16 39 4) ≤ (μ16 249 1) → (xIn ((μ16 249 1) - (μ1 249 1))) ∧ (tX10_granted ((μ16 249 1) - (μ1 249 1)) μ16 (fun r33 μ31 => (xIn r33) → xRan μ31 → (Q r33 μ31)))) ∧
  (¬ (μ16 39 4) ≤ (μ16 249 1) → tX8_receive 249 μ16 (fun μ35 => xRan μ35 → (J61 (l3_15 + 1) μ35))))))))) ∧
  (¬ (μ1 249 1) < (μ1 39 4) → tX10_refused 6 μ1 (fun r39 μ37 => (xIn r39) → xRan μ37 → (Q r39 μ37))))) ∧
  (¬ p1 ≤ 8 → tX10_refused 2 μ1 (fun r43 μ41 => (xIn r43) → xRan μ41 → (Q r43 μ41))))))) ∧
  (r3 = 0 → tX10_refused 1 μ1 (fun r47 μ45 => (xIn r47) → xRan μ45 → (Q r47 μ45))))))
def tX10_seat (p1 : Int) (p2 : Int) (μ : xM) (Q : Int → xM → Prop) : Prop := xRan μ → (xIn p1) → (xIn p2) → 
  ((p1 < 0 → tX10_denied 1 μ (fun r4 μ2 => (r4 = 0 ∨ r4 = 1) → xRan μ2 → (Q r4 μ2))) ∧
  (¬ p1 < 0 → (((μ 39 0) ≤ p1 → tX10_denied 1 μ (fun r10 μ8 => (r10 = 0 ∨ r10 = 1) → xRan μ8 → (Q r10 μ8))) ∧
  (¬ (μ 39 0) ≤ p1 → tX2_isWord 39 p2 μ (fun r14 μ12 => (r14 = 0 ∨ r14 = 1) → xRan μ12 → (((r14 = 1 → (((μ12 249 1) < (μ12 39 4) → tX4_at 249 p1 μ12 (fun r22 μ20 => (xIn r22) → xRan μ20 → (tX1_letterOf r22 p2 μ20 (fun r26 μ24 => (xIn r26) → xRan μ24 → (tX2_firstOf 39 (μ24 249 1) μ24 (fun r31 μ29 => (xIn r31) → xRan μ29 → (((r26 = r31 → tX4_sitDown 249 p1 p2 μ29 (fun μ34 => xRan μ34 → (tX10_allowed μ34 (fun r38 μ36 => (r38 = 0 ∨ r38 = 1) → xRan μ36 → (Q r38 μ36))))) ∧
  (¬ r26 = r31 → tX10_denied 5 μ29 (fun r42 μ40 => (r42 = 0 ∨ r42 = 1) → xRan μ40 → (Q r42 μ40))))))))))) ∧
  (¬ (μ12 249 1) < (μ12 39 4) → tX10_denied 6 μ12 (fun r46 μ44 => (r46 = 0 ∨ r46 = 1) → xRan μ44 → (Q r46 μ44))))) ∧
  (r14 = 0 → tX10_denied 1 μ12 (fun r50 μ48 => (r50 = 0 ∨ r50 = 1) → xRan μ48 → (Q r50 μ48))))))))))
def tX10_stand  (μ : xM) (Q : Int → xM → Prop) : Prop := xRan μ → 
  tX2_isOpen 39 μ (fun r3 μ1 => (r3 = 0 ∨ r3 = 1) → xRan μ1 → (((r3 = 1 → (((μ1 249 1) < (μ1 39 4) → tX4_leaveStanding 249 μ1 (fun μ9 => xRan μ9 → (tX10_allowed μ9 (fun r13 μ11 => (r13 = 0 ∨ r13 = 1) → xRan μ11 → (Q r13 μ11))))) ∧
  (¬ (μ1 249 1) < (μ1 39 4) → tX10_denied 6 μ1 (fun r17 μ15 => (r17 = 0 ∨ r17 = 1) → xRan μ15 → (Q r17 μ15))))) ∧
  (r3 = 0 → tX10_denied 1 μ1 (fun r21 μ19 => (r21 = 0 ∨ r21 = 1) → xRan μ19 → (Q r21 μ19))))))
def tX10_can  (μ : xM) (Q : Int → xM → Prop) : Prop := xRan μ → 
  tX2_isOpen 39 μ (fun r3 μ1 => (r3 = 0 ∨ r3 = 1) → xRan μ1 → (((r3 = 1 → (((μ1 249 1) < (μ1 39 4) → tX2_firstOf 39 (μ1 249 1) μ1 (fun r12 μ10 => (xIn r12) → xRan μ10 → (xLoop2 0 0 μ10 (fun J59 l2_14 l3_15 μ16 =>
  (xIn l3_15) ∧ ((((μ16 39 0) ≤ l3_15 → (xIn l2_14) ∧ (tX10_granted l2_14 μ16 (fun r24 μ22 => (xIn r24) → xRan μ22 → (Q r24 μ22)))) ∧
  (¬ (μ16 39 0) ≤ l3_15 → tX4_at 249 l3_15 μ16 (fun r28 μ26 => (xIn r28) → xRan μ26 → (tX1_waysBy r28 r12 μ26 (fun r32 μ30 => (xIn r32) → xRan μ30 → (J59 (l2_14 + r32) (l3_15 + 1) μ30))))))))))) ∧
  (¬ (μ1 249 1) < (μ1 39 4) → tX10_refused 6 μ1 (fun r36 μ34 => (xIn r36) → xRan μ34 → (Q r36 μ34))))) ∧
  (r3 = 0 → tX10_refused 1 μ1 (fun r40 μ38 => (xIn r40) → xRan μ38 → (Q r40 μ38))))))
def tX10_table (p1 : Int) (μ : xM) (Q : Int → xM → Prop) : Prop := xRan μ → (xIn p1) → 
  ((p1 < 0 → tX10_refused 1 μ (fun r4 μ2 => (xIn r4) → xRan μ2 → (Q r4 μ2))) ∧
  (¬ p1 < 0 → ((p1 < (μ 39 0) → tX4_at 249 p1 μ (fun r10 μ8 => (xIn r10) → xRan μ8 → (((r10 ≠ 24 → tX10_granted r10 μ8 (fun r15 μ13 => (xIn r15) → xRan μ13 → (Q r15 μ13))) ∧
  (r10 = 24 → tX10_granted (-2) μ8 (fun r19 μ17 => (xIn r19) → xRan μ17 → (Q r19 μ17))))))) ∧
  (¬ p1 < (μ 39 0) → tX10_refused 1 μ (fun r23 μ21 => (xIn r23) → xRan μ21 → (Q r23 μ21))))))
def tX10_standing  (μ : xM) (Q : Int → xM → Prop) : Prop := xRan μ → 
  tX2_isOpen 39 μ (fun r3 μ1 => (r3 = 0 ∨ r3 = 1) → xRan μ1 → (((r3 = 0 → tX10_refused 1 μ1 (fun r8 μ6 => (xIn r8) → xRan μ6 → (Q r8 μ6))) ∧
  (r3 = 1 → tX4_standingBits 249 μ1 (fun r12 μ10 => (xIn r12) → xRan μ10 → (tX10_granted r12 μ10 (fun r16 μ14 => (xIn r16) → xRan μ14 → (Q r16 μ14))))))))
def tX10_ever  (μ : xM) (Q : Int → xM → Prop) : Prop := xRan μ → 
  tX2_isOpen 39 μ (fun r3 μ1 => (r3 = 0 ∨ r3 = 1) → xRan μ1 → (((r3 = 1 → (((μ1 216 0) ≠ 0 → tX10_granted (μ1 216 1) μ1 (fun r11 μ9 => (xIn r11) → xRan μ9 → (Q r11 μ9))) ∧
  ((μ1 216 0) = 0 → tX9_gather 216 (-1) μ1 (fun μ13 => xRan μ13 → (tX10_offerGood 216 1 μ13 (fun μ15 => xRan μ15 → (tX9_findPlans 216 μ15 (fun μ17 => xRan μ17 → (tX10_granted (μ17 216 1) μ17 (fun r22 μ20 => (xIn r22) → xRan μ20 → (Q r22 μ20))))))))))) ∧
  (r3 = 0 → tX10_refused 1 μ1 (fun r26 μ24 => (xIn r26) → xRan μ24 → (Q r26 μ24))))))
def tX10_rises (p1 : Int) (μ : xM) (Q : Int → xM → Prop) : Prop := xRan μ → (xIn p1) → 
  tX2_isWord 39 p1 μ (fun r3 μ1 => (r3 = 0 ∨ r3 = 1) → xRan μ1 → (((r3 = 1 → tX2_isGood 39 p1 μ1 (fun r8 μ6 => (r8 = 0 ∨ r8 = 1) → xRan μ6 → (((r8 = 1 → tX1_riseOf p1 μ6 (fun r13 μ11 => (xIn r13) → xRan μ11 → (tX10_granted r13 μ11 (fun r17 μ15 => (xIn r17) → xRan μ15 → (Q r17 μ15))))) ∧
  (r8 = 0 → tX10_refused 5 μ6 (fun r21 μ19 => (xIn r21) → xRan μ19 → (Q r21 μ19))))))) ∧
  (r3 = 0 → tX10_refused 1 μ1 (fun r25 μ23 => (xIn r25) → xRan μ23 → (Q r25 μ23))))))
def tX10_isTold (p1 : Int) (p2 : Int) (μ : xM) (Q : Int → xM → Prop) : Prop := xRan μ → (xIn p1) → (xIn p2) → 
  ((p2 = (-1) → Q 1 μ) ∧
  (¬ p2 = (-1) → (((μ 39 0) ≤ p1 → Q 0 μ) ∧
  (¬ (μ 39 0) ≤ p1 → tX2_isWord 39 p2 μ (fun r6 μ4 => (r6 = 0 ∨ r6 = 1) → xRan μ4 → (((r6 = 0 → Q 0 μ4) ∧
  (r6 = 1 → Q 1 μ4))))))))
def tX10_isEmptyOrGood (p1 : Int) (μ : xM) (Q : Int → xM → Prop) : Prop := xRan μ → (xIn p1) → 
  ((p1 = (-1) → Q 1 μ) ∧
  (¬ p1 = (-1) → tX2_isGood 39 p1 μ (fun r4 μ2 => (r4 = 0 ∨ r4 = 1) → xRan μ2 → (((r4 = 0 → Q 0 μ2) ∧
  (r4 = 1 → Q 1 μ2))))))
def tX10_steps_b128 (p1 : Int) (p2 : Int) (p3 : Int) (p4 : Int) (s1 : Int) (s2 : Int) (s3 : Int) (μ : xM) (Q : Int → xM → Prop)  : Prop := xRan μ →
  (xIn s1) ∧ ((xIn s2) ∧ ((xIn s3) ∧ (tX7_codeOf s1 s2 s3 μ (fun r70 μ68 => (xIn r70) → xRan μ68 → (tX7_climb 249 r70 p4 μ68 (fun r74 μ72 => (xIn r74) → xRan μ72 → (tX10_granted r74 μ72 (fun r78 μ76 => (xIn r78) → xRan μ76 → (Q r78 μ76)))))))))
def tX10_steps_b117 (p1 : Int) (p2 : Int) (p3 : Int) (p4 : Int) (s1 : Int) (s2 : Int) (μ : xM) (Q : Int → xM → Prop)  : Prop := xRan μ →
  ((p3 ≠ (-1) → tX10_steps_b128 p1 p2 p3 p4 s1 s2 p3 μ Q ) ∧
  (p3 = (-1) → tX10_steps_b128 p1 p2 p3 p4 s1 s2 24 μ Q ))
def tX10_steps_b106 (p1 : Int) (p2 : Int) (p3 : Int) (p4 : Int) (s1 : Int) (μ : xM) (Q : Int → xM → Prop)  : Prop := xRan μ →
  ((p2 ≠ (-1) → tX10_steps_b117 p1 p2 p3 p4 s1 p2 μ Q ) ∧
  (p2 = (-1) → tX10_steps_b117 p1 p2 p3 p4 s1 24 μ Q ))
def tX10_steps (p1 : Int) (p2 : Int) (p3 : Int) (p4 : Int) (μ : xM) (Q : Int → xM → Prop) : Prop := xRan μ → (xIn p1) → (xIn p2) → (xIn p3) → (xIn p4) → 
  tX2_isOpen 39 μ (fun r3 μ1 => (r3 = 0 ∨ r3 = 1) → xRan μ1 → (((r3 = 0 → tX10_refused 1 μ1 (fun r8 μ6 => (xIn r8) → xRan μ6 → (Q r8 μ6))) ∧
  (r3 = 1 → tX10_isTold 0 p1 μ1 (fun r12 μ10 => (r12 = 0 ∨ r12 = 1) → xRan μ10 → (((r12 = 0 → tX10_refused 1 μ10 (fun r17 μ15 => (xIn r17) → xRan μ15 → (Q r17 μ15))) ∧
  (r12 = 1 → tX10_isTold 1 p2 μ10 (fun r21 μ19 => (r21 = 0 ∨ r21 = 1) → xRan μ19 → (((r21 = 0 → tX10_refused 1 μ19 (fun r26 μ24 => (xIn r26) → xRan μ24 → (Q r26 μ24))) ∧
  (r21 = 1 → tX10_isTold 2 p3 μ19 (fun r30 μ28 => (r30 = 0 ∨ r30 = 1) → xRan μ28 → (((r30 = 1 → ((p4 < 0 → tX10_refused 2 μ28 (fun r36 μ34 => (xIn r36) → xRan μ34 → (Q r36 μ34))) ∧
  (¬ p4 < 0 → ((p4 ≤ 8 → tX10_isEmptyOrGood p1 μ28 (fun r41 μ39 => (r41 = 0 ∨ r41 = 1) → xRan μ39 → (((r41 = 0 → tX10_refused 5 μ39 (fun r46 μ44 => (xIn r46) → xRan μ44 → (Q r46 μ44))) ∧
  (r41 = 1 → tX10_isEmptyOrGood p2 μ39 (fun r50 μ48 => (r50 = 0 ∨ r50 = 1) → xRan μ48 → (((r50 = 0 → tX10_refused 5 μ48 (fun r55 μ53 => (xIn r55) → xRan μ53 → (Q r55 μ53))) ∧
  (r50 = 1 → tX10_isEmptyOrGood p3 μ48 (fun r59 μ57 => (r59 = 0 ∨ r59 = 1) → xRan μ57 → (((r59 = 1 → ((p1 ≠ (-1) → tX10_steps_b106 p1 p2 p3 p4 p1 μ57 Q ) ∧
  (p1 = (-1) → tX10_steps_b106 p1 p2 p3 p4 24 μ57 Q ))) ∧
  (r59 = 0 → tX10_refused 5 μ57 (fun r82 μ80 => (xIn r82) → xRan μ80 → (Q r82 μ80))))))))))))))) ∧
  (¬ p4 ≤ 8 → tX10_refused 2 μ28 (fun r86 μ84 => (xIn r86) → xRan μ84 → (Q r86 μ84))))))) ∧
  (r30 = 0 → tX10_refused 1 μ28 (fun r90 μ88 => (xIn r90) → xRan μ88 → (Q r90 μ88))))))))))))))))))
def tX10_able  (μ : xM) (Q : Int → xM → Prop) : Prop := xRan μ → 
  tX2_isOpen 39 μ (fun r3 μ1 => (r3 = 0 ∨ r3 = 1) → xRan μ1 → (((r3 = 0 → tX10_refused 1 μ1 (fun r8 μ6 => (xIn r8) → xRan μ6 → (Q r8 μ6))) ∧
  (r3 = 1 → tX0_fromBeginning μ1 (fun r12 μ10 => (xIn r12) → xRan μ10 → (tX10_granted r12 μ10 (fun r16 μ14 => (xIn r16) → xRan μ14 → (Q r16 μ14))))))))
def tX10_sits (p1 : Int) (μ : xM) (Q : Int → xM → Prop) : Prop := xRan μ → (xIn p1) → 
  tX2_isOpen 39 μ (fun r3 μ1 => (r3 = 0 ∨ r3 = 1) → xRan μ1 → (((r3 = 0 → tX10_refused 1 μ1 (fun r8 μ6 => (xIn r8) → xRan μ6 → (Q r8 μ6))) ∧
  (r3 = 1 → tX10_isHost p1 μ1 (fun r12 μ10 => (r12 = 0 ∨ r12 = 1) → xRan μ10 → (((r12 = 1 → tX4_begin 251 p1 μ10 (fun μ15 => xRan μ15 → (xLoop1 0 μ15 (fun J34 l2_17 μ18 =>
  (xIn l2_17) ∧ ((((μ18 39 4) ≤ l2_17 → tJ6_bitCount_0f7a4 (μ18 251 2) μ18 (fun r26 μ24 => (xIn r26) → xRan μ24 → (tX10_granted r26 μ24 (fun r30 μ28 => (xIn r30) → xRan μ28 → (Q r30 μ28))))) ∧
  (¬ (μ18 39 4) ≤ l2_17 → tX8_receive 251 μ18 (fun μ32 => xRan μ32 → (J34 (l2_17 + 1) μ32))))))))) ∧
  (r12 = 0 → tX10_refused 1 μ10 (fun r36 μ34 => (xIn r36) → xRan μ34 → (Q r36 μ34))))))))))
def tX10_commonDivisor (p1 : Int) (p2 : Int) (μ : xM) (Q : Int → xM → Prop) : Prop := xRan μ → (xIn p1) → (xIn p2) → 
  xLoop3 (max p1 p2) (min p1 p2) 0 μ (fun J15 l2_1 l3_2 l4_3 μ4 =>
  (xIn l4_3) ∧ (((64 ≤ l4_3 → (xIn l2_1) ∧ (Q l2_1 μ4)) ∧
  (¬ 64 ≤ l4_3 → (xIn l3_2) ∧ (((l3_2 ≤ 0 → (xIn l2_1) ∧ (Q l2_1 μ4)) ∧
  (¬ l3_2 ≤ 0 → (xIn l2_1) ∧ ((0 < l3_2) ∧ (J15 l3_2 (l2_1.tmod l3_2) (l4_3 + 1) μ4)))))))))
def tX10_hope (p1 : Int) (p2 : Int) (μ : xM) (Q : Int → xM → Prop) : Prop := xRan μ → (xIn p1) → (p2 = 0 ∨ p2 = 1) → 
  tX2_isOpen 39 μ (fun r3 μ1 => (r3 = 0 ∨ r3 = 1) → xRan μ1 → (((r3 = 1 → ((p1 < 1 → tX10_refused 2 μ1 (fun r9 μ7 => (xIn r9) → xRan μ7 → (Q r9 μ7))) ∧
  (¬ p1 < 1 → ((p1 ≤ 4 → ((1 ≤ (μ1 39 5) → tX0_hopeFrom 249 p1 μ1 (fun r16 μ14 => (xIn r16) → xRan μ14 → (tX0_weightOf p1 μ14 (fun r20 μ18 => (xIn r20) → xRan μ18 → (tX10_commonDivisor r16 r20 μ18 (fun r24 μ22 => (xIn r24) → xRan μ22 → (((1 ≤ r24 → ((p2 = 0 → (0 < r24) ∧ ((xIn (r16.tdiv r24)) ∧ (tX10_granted (r16.tdiv r24) μ22 (fun r32 μ30 => (xIn r32) → xRan μ30 → (Q r32 μ30))))) ∧
  (p2 = 1 → (0 < r24) ∧ ((xIn (r20.tdiv r24)) ∧ (tX10_granted (r20.tdiv r24) μ22 (fun r38 μ36 => (xIn r38) → xRan μ36 → (Q r38 μ36))))))) ∧
  (¬ 1 ≤ r24 → tX10_granted (-1) μ22 (fun r42 μ40 => (xIn r42) → xRan μ40 → (Q r42 μ40))))))))))) ∧
  (¬ 1 ≤ (μ1 39 5) → tX10_refused 6 μ1 (fun r46 μ44 => (xIn r46) → xRan μ44 → (Q r46 μ44))))) ∧
  (¬ p1 ≤ 4 → tX10_refused 2 μ1 (fun r50 μ48 => (xIn r50) → xRan μ48 → (Q r50 μ48))))))) ∧
  (r3 = 0 → tX10_refused 1 μ1 (fun r54 μ52 => (xIn r54) → xRan μ52 → (Q r54 μ52))))))
def tX10_nimTonight  (μ : xM) (Q : Int → xM → Prop) : Prop := xRan μ → 
  xLoop2 0 0 μ (fun J4 l1_1 l2_2 μ3 =>
  (xIn l2_2) ∧ ((((μ3 39 0) ≤ l2_2 → (xIn l1_1) ∧ (Q l1_1 μ3)) ∧
  (¬ (μ3 39 0) ≤ l2_2 → tX4_at 249 l2_2 μ3 (fun r11 μ9 => (xIn r11) → xRan μ9 → (tX1_nimOf r11 μ9 (fun r15 μ13 => (xIn r15) → xRan μ13 → (J4 (xXor l1_1 r15) (l2_2 + 1) μ13))))))))
def tX10_game  (μ : xM) (Q : Int → xM → Prop) : Prop := xRan μ → 
  tX2_isOpen 39 μ (fun r3 μ1 => (r3 = 0 ∨ r3 = 1) → xRan μ1 → (((r3 = 0 → tX10_refused 1 μ1 (fun r8 μ6 => (xIn r8) → xRan μ6 → (Q r8 μ6))) ∧
  (r3 = 1 → tX10_nimTonight μ1 (fun r12 μ10 => (xIn r12) → xRan μ10 → (tX10_granted r12 μ10 (fun r16 μ14 => (xIn r16) → xRan μ14 → (Q r16 μ14))))))))
def tX10_move  (μ : xM) (Q : Int → xM → Prop) : Prop := xRan μ → 
  tX2_isOpen 39 μ (fun r3 μ1 => (r3 = 0 ∨ r3 = 1) → xRan μ1 → (((r3 = 1 → tX10_nimTonight μ1 (fun r8 μ6 => (xIn r8) → xRan μ6 → (xLoop1 0 μ6 (fun J23 l2_10 μ11 =>
  (xIn l2_10) ∧ ((((μ11 39 0) ≤ l2_10 → tX10_granted (-2) μ11 (fun r18 μ16 => (xIn r18) → xRan μ16 → (Q r18 μ16))) ∧
  (¬ (μ11 39 0) ≤ l2_10 → tX4_at 249 l2_10 μ11 (fun r22 μ20 => (xIn r22) → xRan μ20 → (tX1_nimOf r22 μ20 (fun r26 μ24 => (xIn r26) → xRan μ24 → (xLoop1 0 μ24 (fun J58 l5_28 μ29 =>
  tX1_ups r22 μ29 (fun r33 μ31 => (xIn r33) → xRan μ31 → ((xIn l5_28) ∧ (((r33 ≤ l5_28 → J23 (l2_10 + 1) μ31) ∧
  (¬ r33 ≤ l5_28 → tX1_upOf r22 l5_28 μ31 (fun r39 μ37 => (xIn r39) → xRan μ37 → (tX1_nimOf r39 μ37 (fun r43 μ41 => (xIn r43) → xRan μ41 → (((r43 ≠ (xXor r8 r26) → J58 (l5_28 + 1) μ41) ∧
  (r43 = (xXor r8 r26) → (xIn ((24 * l2_10) + r39)) ∧ (tX10_granted ((24 * l2_10) + r39) μ41 (fun r49 μ47 => (xIn r49) → xRan μ47 → (Q r49 μ47)))))))))))))))))))))))))) ∧
  (r3 = 0 → tX10_refused 1 μ1 (fun r53 μ51 => (xIn r53) → xRan μ51 → (Q r53 μ51))))))
def tX10_mark  (μ : xM) (Q : Int → xM → Prop) : Prop := xRan μ → 
  tX2_isOpen 39 μ (fun r3 μ1 => (r3 = 0 ∨ r3 = 1) → xRan μ1 → (((r3 = 1 → (((μ1 0 17) < 0 → tX10_refused 3 μ1 (fun r10 μ8 => (xIn r10) → xRan μ8 → (Q r10 μ8))) ∧
  (¬ (μ1 0 17) < 0 → (((μ1 0 17) < 3 → (0 ≤ (μ1 0 17) ∧ (μ1 0 17) < 3) ∧ (tX4_copyFrom (254 + 2 * (μ1 0 17).toNat) 249 μ1 (fun μ16 => xRan μ16 → ((xIn ((μ16 0 17) + 1)) ∧ (∀ μ20 : xM, μ20 = wi μ16 0 17 ((μ16 0 17) + 1) → xRan μ20 → ((xIn ((μ20 0 17) - 1)) ∧ (tX10_granted ((μ20 0 17) - 1) μ20 (fun r27 μ25 => (xIn r27) → xRan μ25 → (Q r27 μ25))))))))) ∧
  (¬ (μ1 0 17) < 3 → tX10_refused 3 μ1 (fun r31 μ29 => (xIn r31) → xRan μ29 → (Q r31 μ29))))))) ∧
  (r3 = 0 → tX10_refused 1 μ1 (fun r35 μ33 => (xIn r35) → xRan μ33 → (Q r35 μ33))))))
def tX10_back (p1 : Int) (μ : xM) (Q : Int → xM → Prop) : Prop := xRan μ → (xIn p1) → 
  ((p1 < 0 → tX10_denied 1 μ (fun r4 μ2 => (r4 = 0 ∨ r4 = 1) → xRan μ2 → (Q r4 μ2))) ∧
  (¬ p1 < 0 → (((μ 0 17) ≤ p1 → tX10_denied 1 μ (fun r10 μ8 => (r10 = 0 ∨ r10 = 1) → xRan μ8 → (Q r10 μ8))) ∧
  (¬ (μ 0 17) ≤ p1 → ((p1 < 3 → (0 ≤ p1 ∧ p1 < 3) ∧ (tX4_copyFrom 249 (254 + 2 * p1.toNat) μ (fun μ14 => xRan μ14 → (tX10_allowed μ14 (fun r18 μ16 => (r18 = 0 ∨ r18 = 1) → xRan μ16 → (Q r18 μ16)))))) ∧
  (¬ p1 < 3 → tX10_denied 1 μ (fun r22 μ20 => (r22 = 0 ∨ r22 = 1) → xRan μ20 → (Q r22 μ20))))))))
def tX10_wrong  (μ : xM) (Q : Int → xM → Prop) : Prop := xRan μ → 
  tX2_isOpen 39 μ (fun r3 μ1 => (r3 = 0 ∨ r3 = 1) → xRan μ1 → (((r3 = 1 → ((1 ≤ (μ1 39 6) → tX6_firstWrong μ1 (fun r10 μ8 => (xIn r10) → xRan μ8 → (tX10_granted r10 μ8 (fun r14 μ12 => (xIn r14) → xRan μ12 → (Q r14 μ12))))) ∧
  (¬ 1 ≤ (μ1 39 6) → tX10_refused 6 μ1 (fun r18 μ16 => (xIn r18) → xRan μ16 → (Q r18 μ16))))) ∧
  (r3 = 0 → tX10_refused 1 μ1 (fun r22 μ20 => (xIn r22) → xRan μ20 → (Q r22 μ20))))))
def tX10_ways  (μ : xM) (Q : Int → xM → Prop) : Prop := xRan μ → 
  tX2_isOpen 39 μ (fun r3 μ1 => (r3 = 0 ∨ r3 = 1) → xRan μ1 → (((r3 = 1 → ((1 ≤ (μ1 39 6) → tX6_rowsWith (-1) μ1 (fun r10 μ8 => (xIn r10) → xRan μ8 → (tX10_granted r10 μ8 (fun r14 μ12 => (xIn r14) → xRan μ12 → (Q r14 μ12))))) ∧
  (¬ 1 ≤ (μ1 39 6) → tX10_refused 6 μ1 (fun r18 μ16 => (xIn r18) → xRan μ16 → (Q r18 μ16))))) ∧
  (r3 = 0 → tX10_refused 1 μ1 (fun r22 μ20 => (xIn r22) → xRan μ20 → (Q r22 μ20))))))
def tX10_waysOf (p1 : Int) (μ : xM) (Q : Int → xM → Prop) : Prop := xRan μ → (xIn p1) → 
  tX2_isGuest 39 p1 μ (fun r3 μ1 => (r3 = 0 ∨ r3 = 1) → xRan μ1 → (((r3 = 1 → ((1 ≤ (μ1 39 6) → tX6_rowsWith p1 μ1 (fun r10 μ8 => (xIn r10) → xRan μ8 → (tX10_granted r10 μ8 (fun r14 μ12 => (xIn r14) → xRan μ12 → (Q r14 μ12))))) ∧
  (¬ 1 ≤ (μ1 39 6) → tX10_refused 6 μ1 (fun r18 μ16 => (xIn r18) → xRan μ16 → (Q r18 μ16))))) ∧
  (r3 = 0 → tX10_refused 1 μ1 (fun r22 μ20 => (xIn r22) → xRan μ20 → (Q r22 μ20))))))
def tX10_rename (p1 : Int) (p2 : Int) (μ : xM) (Q : Int → xM → Prop) : Prop := xRan μ → (xIn p1) → (xIn p2) → 
  tX2_isGuest 39 p1 μ (fun r3 μ1 => (r3 = 0 ∨ r3 = 1) → xRan μ1 → (((r3 = 1 → ((p2 < 0 → tX10_denied 2 μ1 (fun r9 μ7 => (r9 = 0 ∨ r9 = 1) → xRan μ7 → (Q r9 μ7))) ∧
  (¬ p2 < 0 → ((p2 < 26 → tX2_firstOf 39 p1 μ1 (fun r14 μ12 => (xIn r14) → xRan μ12 → (((r14 ≠ p2 → tX2_setFirst 39 p1 p2 μ12 (fun μ17 => xRan μ17 → (tX4_begin 249 (μ17 249 0) μ17 (fun μ20 => xRan μ20 → (tX10_renew μ20 (fun μ22 => xRan μ22 → (tX10_allowed μ22 (fun r26 μ24 => (r26 = 0 ∨ r26 = 1) → xRan μ24 → (Q r26 μ24))))))))) ∧
  (r14 = p2 → tX10_denied 5 μ12 (fun r30 μ28 => (r30 = 0 ∨ r30 = 1) → xRan μ28 → (Q r30 μ28))))))) ∧
  (¬ p2 < 26 → tX10_denied 2 μ1 (fun r34 μ32 => (r34 = 0 ∨ r34 = 1) → xRan μ32 → (Q r34 μ32))))))) ∧
  (r3 = 0 → tX10_denied 1 μ1 (fun r38 μ36 => (r38 = 0 ∨ r38 = 1) → xRan μ36 → (Q r38 μ36))))))
def tX10_bar (p1 : Int) (p2 : Int) (μ : xM) (Q : Int → xM → Prop) : Prop := xRan μ → (xIn p1) → (p2 = 0 ∨ p2 = 1) → 
  tX2_isWord 39 p1 μ (fun r3 μ1 => (r3 = 0 ∨ r3 = 1) → xRan μ1 → (((r3 = 1 → tX2_isBarred 39 p1 μ1 (fun r8 μ6 => (r8 = 0 ∨ r8 = 1) → xRan μ6 → (((r8 ≠ p2 → tX2_setBarred 39 p1 p2 μ6 (fun μ11 => xRan μ11 → (tX1_settle μ11 (fun μ13 => xRan μ13 → (tX4_begin 249 (μ13 249 0) μ13 (fun μ16 => xRan μ16 → (tX10_renew μ16 (fun μ18 => xRan μ18 → (tX10_allowed μ18 (fun r22 μ20 => (r22 = 0 ∨ r22 = 1) → xRan μ20 → (Q r22 μ20))))))))))) ∧
  (r8 = p2 → tX10_denied 5 μ6 (fun r26 μ24 => (r26 = 0 ∨ r26 = 1) → xRan μ24 → (Q r26 μ24))))))) ∧
  (r3 = 0 → tX10_denied 1 μ1 (fun r30 μ28 => (r30 = 0 ∨ r30 = 1) → xRan μ28 → (Q r30 μ28))))))
def tX10_guest (p1 : Int) (μ : xM) (Q : Int → xM → Prop) : Prop := xRan μ → (xIn p1) → 
  tX2_isGuest 39 p1 μ (fun r3 μ1 => (r3 = 0 ∨ r3 = 1) → xRan μ1 → (((r3 = 0 → tX10_refused 1 μ1 (fun r8 μ6 => (xIn r8) → xRan μ6 → (Q r8 μ6))) ∧
  (r3 = 1 → tX2_firstOf 39 p1 μ1 (fun r12 μ10 => (xIn r12) → xRan μ10 → (tX10_granted r12 μ10 (fun r16 μ14 => (xIn r16) → xRan μ14 → (Q r16 μ14))))))))
def tX10_size (p1 : Int) (μ : xM) (Q : Int → xM → Prop) : Prop := xRan μ → (xIn p1) → 
  ((p1 = 0 → Q (μ 39 0) μ) ∧
  (p1 = 1 → Q (μ 39 1) μ) ∧
  (p1 = 2 → Q (μ 39 3) μ) ∧
  (p1 = 3 → Q (μ 39 4) μ) ∧
  (p1 = 4 → Q (μ 39 5) μ) ∧
  (p1 = 5 → Q (μ 39 6) μ) ∧
  (p1 = 6 → Q (μ 249 1) μ) ∧
  (p1 = 7 → Q (μ 249 0) μ) ∧
  (p1 = 8 → Q (μ 0 17) μ) ∧
  (p1 = 9 → Q (μ 35 0) μ) ∧
  ((p1 < 0 ∨ 9 < p1) → Q (-1) μ))
def tX10_trouble  (μ : xM) (Q : Int → xM → Prop) : Prop := xRan μ → 
  Q (μ 0 18) μ
