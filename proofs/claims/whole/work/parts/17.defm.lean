def p8_in (x0 x2 x4 : Int) (h : HP) (Q : Int → Prop) : Prop := brc (w32 (lc x0 x2) < 0) (Q 0) (brc (0 < w32 (lc x0 x4)) (Q 0) (Q 1))
def p8_feed_L35 (x2 : Int) (Q : Int → HP → Prop) : Nat → HP → Int → Prop
  | 0, _, _ => False
  | n + 1, h, x4 => brc (w32 x4 < 0) (Q (h 69 16) h) (wr h 79 400 (h 69 16) (la (lr x2 (8 * x4)) 255) fun h2 => pf h2 69 16 ((h2 69 16) + 1) fun h3 => p8_feed_L35 x2 Q n h3 (x4 + (-1)))
def p8_feed (x1 x2 : Int) (h : HP) (Q : Int → HP → Prop) : Prop := p8_in (w32 x1) 1 8 h fun r1 => brc (w32 r1 = 0) (Q (-1000000002) h) (brc (w32 ((h 69 16) + x1) ≤ w32 400) (p8_feed_L35 x2 Q FUEL h (x1 - 1)) (Q (-1000000004) h))
def p8_here_L0 (E38 : HP → Prop) : Nat → HP → Prop
  | 0, _ => False
  | n + 1, h => brc (w32 (h 69 16) ≤ w32 (h 69 18)) (E38 h) (rd h 79 400 (h 69 18) fun v10 => brc (w32 v10 = w32 32) (pf h 69 18 ((h 69 18) + 1) fun h11 => p8_here_L0 E38 n h11) (E38 h))
def p8_here  (h : HP) (Q : Int → HP → Prop) : Prop := jn (fun (h5 : HP) => brc (w32 (h5 69 16) ≤ w32 (h5 69 18)) (Q (-1) h5) (rd h5 79 400 (h5 69 18) fun v7 => Q v7 h5)) fun K6 => brc (w32 (h 69 16) ≤ w32 (h 69 18)) (K6 h) (rd h 79 400 (h 69 18) fun v8 => brc (w32 v8 = w32 32) (pf h 69 18 ((h 69 18) + 1) fun h9 => p8_here_L0 (fun (h12 : HP) => K6 h12) FUEL h9) (K6 h))
def p8_readWord_L18 (Q : HP → Prop) : Nat → HP → Prop
  | 0, _ => False
  | n + 1, h => brc (w32 (h 69 16) ≤ w32 (h 69 20)) (Q h) (rd h 79 400 (h 69 20) fun v5 => p8_in (w32 v5) 97 122 h fun r6 => brc (w32 r6 = 0) (Q h) (jn (fun (y9 : Int) => pf h 69 19 y9 fun h11 => pf h11 69 20 ((h11 69 20) + 1) fun h12 => p8_readWord_L18 Q n h12) fun K10 => brc (w32 (lc (h 69 19) 1000000000000) ≤ 0) (rd h 79 400 (h 69 20) fun v13 => K10 (((27 * (h 69 19)) + (w32 v13)) - 96)) (K10 2000000000000)))
def p8_readWord  (h : HP) (Q : HP → Prop) : Prop := p8_here  h fun r1 h2 => pf h2 69 19 0 fun h3 => pf h3 69 20 (h3 69 18) fun h4 => p8_readWord_L18 Q FUEL h4
def p8_code (x0 x1 x2 x3 x4 : Int) (h : HP) (Q : Int → Prop) : Prop := Q (((27 * (((27 * (((27 * (((27 * ((w32 x0) - 96)) + (w32 x1)) - 96)) + (w32 x2)) - 96)) + (w32 x3)) - 96)) + (w32 x4)) - 96)
def p8_fails (x1 x2 : Int) (h : HP) (Q : Int → HP → Prop) : Prop := pf h 69 17 x2 fun h1 => Q x1 h1
def p8_takeNumber_L42 (x1 x2 : Int) (E129 : HP → Prop) : Nat → HP → Prop
  | 0, _ => False
  | n + 1, h => brc (w32 (h 69 16) ≤ w32 (h 69 18)) (E129 h) (rd h 79 400 (h 69 18) fun v6 => p8_in (w32 v6) 48 57 h fun r7 => brc (w32 r7 = 0) (E129 h) (jn (fun (y10 : Int) => pf h 69 21 y10 fun h12 => pf h12 69 18 ((h12 69 18) + 1) fun h13 => p8_takeNumber_L42 x1 x2 E129 n h13) fun K11 => brc (w32 (h 69 21) ≤ w32 10000) (rd h 79 400 (h 69 18) fun v14 => K11 (((10 * (h 69 21)) + v14) - 48)) (K11 (h 69 21))))
def p8_takeNumber (x1 x2 : Int) (h : HP) (Q : Int → HP → Prop) : Prop := p8_here  h fun r1 h2 => p8_in (w32 r1) 48 57 h2 fun r3 => brc (w32 r3 = 0) (p8_fails 1 (h2 69 18) h2 fun r21 h22 => Q r21 h22) (pf h2 69 22 (h2 69 18) fun h4 => pf h4 69 21 0 fun h5 => p8_takeNumber_L42 x1 x2 (fun (h15 : HP) => jn (p8_fails 2 (h15 69 22) h15 fun r18 h19 => Q r18 h19) fun K17 => brc (w32 3 < w32 ((h15 69 18) - (h15 69 22))) (K17) (p8_in (w32 (h15 69 21)) (w32 x1) (w32 x2) h15 fun r20 => brc (w32 r20 = 0) (K17) (Q 0 h15))) FUEL h5)
def p8_takeWorth  (h : HP) (Q : Int → HP → Prop) : Prop := p8_takeNumber 0 ((h 69 24) - 1) h fun r1 h2 => jn (fun (y7 : Int) (h8 : HP) => brc (w32 y7 ≤ 0) (rd h8 83 30 ((6 * (h2 69 21)) + (h8 69 21)) fun v10 => brc (w32 v10 < 0) (pf h8 69 29 ((h8 69 29) + 1) fun h11 => p8_takeNumber 0 99 h11 fun r12 h13 => wr h13 83 30 ((6 * (h2 69 21)) + (h8 69 21)) (h13 69 21) fun h14 => Q r12 h14) (p8_fails 4 (h8 69 22) h8 fun r15 h16 => Q r15 h16)) (Q y7 h8)) fun K9 => brc (w32 r1 ≤ 0) (p8_takeNumber 0 ((h2 69 23) - 1) h2 fun r17 h18 => K9 r17 h18) (K9 r1 h2)
def p8_takeHouse_L35 (x1 : Int) (Q : Int → HP → Prop) : Nat → HP → Int → Int → Prop
  | 0, _, _, _ => False
  | n + 1, h, x2, x3 => brc (w32 x2 = 0) (p8_here  h fun r5 h6 => p8_in (w32 r5) 48 57 h6 fun r7 => brc (w32 r7 = 0) (Q x2 h6) (p8_takeNumber 0 ((h6 69 23) - 1) h6 fun r8 h9 => jn (fun (y14 : Int) (h15 : HP) => brc (w32 y14 = 0) (wr h15 81 20 (h15 69 26) (h15 69 21) fun h17 => wr h17 82 20 (h17 69 26) x1 fun h18 => pf h18 69 26 ((h18 69 26) + 1) fun h19 => p8_takeHouse_L35 x1 Q n h19 y14 (x3 + 1)) (p8_takeHouse_L35 x1 Q n h15 y14 x3)) fun K16 => jn (K16 r8 h9) fun K20 => brc (w32 r8 = 0) (brc (w32 x3 = w32 4) (p8_fails 4 (h9 69 22) h9 fun r21 h22 => K16 r21 h22) (K20)) (K20))) (Q x2 h)
def p8_takeHouse  (h : HP) (Q : Int → HP → Prop) : Prop := pf h 69 24 ((h 69 24) + 1) fun h1 => p8_takeNumber 0 99 h1 fun r2 h3 => wr h3 80 5 (h 69 24) (h3 69 21) fun h4 => p8_takeHouse_L35 (h 69 24) Q FUEL h4 r2 0
def p8_takeClause  (h : HP) (Q : Int → HP → Prop) : Prop := p8_readWord  h fun h1 => p8_code 115 111 114 116 115 h1 fun r2 => jn (fun (y6 : Int) => jn (p8_fails 1 (h1 69 18) h1 fun r66 h67 => Q r66 h67) fun K65 => brc (w32 y6 < 0) (K65) (jn (jn (pf h1 69 18 (h1 69 20) fun h72 => jn (fun (y91 : Int) (h92 : HP) => jn (fun (h99 : HP) => pf h99 69 18 ((h99 69 18) + 1) fun h101 => Q y91 h101) fun K100 => brc (w32 y91 = 0) (p8_here  h92 fun r102 h103 => brc (w32 r102 = w32 59) (K100 h103) (p8_fails 1 (h103 69 18) h103 fun r104 h105 => Q r104 h105)) (K100 h92)) fun K93 => brc (w32 y6 = 0) (p8_takeNumber 1 6 h72 fun r119 h120 => pf h120 69 23 (h120 69 21) fun h121 => K93 r119 h121) (jn (fun (y112 : Int) (h113 : HP) => K93 y112 h113) fun K114 => brc (w32 y6 = w32 1) (p8_takeHouse  h72 fun r117 h118 => K114 r117 h118) (p8_takeWorth  h72 fun r115 h116 => K114 r115 h116))) fun K71 => jn (p8_fails 3 (h1 69 18) h1 fun r123 h124 => Q r123 h124) fun K122 => brc (w32 y6 = 0) (brc (w32 (h1 69 23) ≤ 0) (K71) (K122)) (brc (w32 y6 = w32 1) (brc (w32 (h1 69 24) = w32 5) (K122) (K71)) (brc (w32 (h1 69 29) = w32 30) (K122) (K71)))) fun K68 => brc (w32 y6 ≤ 0) (K68) (brc (w32 (h1 69 23) = 0) (K65) (K68)))) fun K7 => brc (w32 (lc (h1 69 19) r2) = 0) (K7 0) (p8_code 104 111 117 115 101 h1 fun r125 => brc (w32 (lc (h1 69 19) r125) = 0) (K7 1) (p8_code 119 111 114 116 104 h1 fun r126 => brc (w32 (lc (h1 69 19) r126) = 0) (K7 2) (K7 (-1))))
def p8_begin_L20 (x1 : Int) (Q : Int → HP → Prop) : Nat → HP → Int → Prop
  | 0, _, _ => False
  | n + 1, h, x2 => brc (w32 (h 69 7) ≤ w32 x2) (Q x1 h) (rd h 72 20 x2 fun v3 => wr h 74 32 x2 v3 fun h4 => rd h4 73 20 x2 fun v5 => wr h4 75 32 x2 v5 fun h6 => wr h6 76 32 x2 (-1) fun h7 => wr h7 77 32 x2 1 fun h8 => rd h8 73 20 x2 fun v9 => wr h8 78 640 (20 * x2) v9 fun h10 => p8_begin_L20 x1 Q n h10 (x2 + 1))
def p8_begin  (h : HP) (Q : Int → HP → Prop) : Prop := pf h 69 13 0 fun h1 => pf h1 69 7 (h1 69 4) fun h2 => p8_begin_L20 (h 69 13) Q FUEL h2 0
def p8_spit_L32 (E51 : HP → Prop) : Nat → HP → Int → Prop
  | 0, _, _ => False
  | n + 1, h, x1 => brc (w32 30 ≤ w32 x1) (E51 h) (wr h 83 30 x1 (-1) fun h7 => p8_spit_L32 E51 n h7 (x1 + 1))
def p8_spit_L53 (E72 : HP → Int → Prop) : Nat → HP → Int → Prop
  | 0, _, _ => False
  | n + 1, h, x1 => brc (w32 x1 = 0) (p8_here  h fun r9 h10 => brc (w32 r9 < 0) (E72 h10 x1) (p8_takeClause  h10 fun r11 h12 => p8_spit_L53 E72 n h12 r11)) (E72 h x1)
def p8_spit_L112 (E135 : HP → Prop) : Nat → HP → Int → Prop
  | 0, _, _ => False
  | n + 1, h, x2 => brc (w32 5 ≤ w32 x2) (E135 h) (rd h 80 5 x2 fun v19 => wr h 70 5 x2 v19 fun h20 => p8_spit_L112 E135 n h20 (x2 + 1))
def p8_spit_L137 (E174 : HP → Prop) : Nat → HP → Int → Prop
  | 0, _, _ => False
  | n + 1, h, x2 => brc (w32 30 ≤ w32 x2) (E174 h) (rd h 83 30 x2 fun v22 => jn (fun (y25 : Int) => wr h 71 30 x2 y25 fun h27 => p8_spit_L137 E174 n h27 (x2 + 1)) fun K26 => brc (0 ≤ w32 v22) (rd h 83 30 x2 fun v28 => K26 v28) (K26 0))
def p8_spit_L176 (E212 : HP → Prop) : Nat → HP → Int → Prop
  | 0, _, _ => False
  | n + 1, h, x2 => brc (w32 20 ≤ w32 x2) (E212 h) (rd h 81 20 x2 fun v30 => wr h 72 20 x2 v30 fun h31 => rd h31 82 20 x2 fun v32 => wr h31 73 20 x2 v32 fun h33 => p8_spit_L176 E212 n h33 (x2 + 1))
def p8_spit  (h : HP) (Q : Int → HP → Prop) : Prop := pf h 69 17 (-1) fun h1 => pf h1 69 18 0 fun h2 => pf h2 69 23 0 fun h3 => pf h3 69 24 0 fun h4 => pf h4 69 26 0 fun h5 => pf h5 69 29 0 fun h6 => p8_spit_L32 (fun (h8 : HP) => p8_spit_L53 (fun (h13 : HP) (y14 : Int) => pf h13 69 16 0 fun h15 => brc (w32 y14 ≤ 0) (pf h15 69 0 (h15 69 23) fun h16 => pf h16 69 1 (h16 69 24) fun h17 => pf h17 69 4 (h17 69 26) fun h18 => p8_spit_L112 (fun (h21 : HP) => p8_spit_L137 (fun (h29 : HP) => p8_spit_L176 (fun (h34 : HP) => pf h34 69 40 0 fun h35 => wr h35 96 2 0 (bb 0) fun h36 => wr h36 96 2 1 (bb 0) fun h37 => p8_begin  h37 fun r38 h39 => Q (h39 69 7) h39) FUEL h29 0) FUEL h21 0) FUEL h18 0) (Q ((-10) - y14) h15)) FUEL h8 0) FUEL h6 0
def p8_fault  (h : HP) (Q : Int → Prop) : Prop := Q (h 69 17)
def p8_countOf_L4 (x1 : Int) (h : HP) (Q : Int → Prop) : Nat → Int → Int → Prop
  | 0, _, _ => False
  | n + 1, x2, x3 => brc (w32 (h 69 7) ≤ w32 x3) (Q x2) (rd h 75 32 x3 fun v1 => brc (w32 v1 = w32 x1) (p8_countOf_L4 x1 h Q n (x2 + 1) (x3 + 1)) (p8_countOf_L4 x1 h Q n (x2 + 0) (x3 + 1)))
def p8_countOf (x1 : Int) (h : HP) (Q : Int → Prop) : Prop := p8_countOf_L4 x1 h Q FUEL 0 0
def p8_poor_L4 (h : HP) (Q : Int → Prop) : Nat → Int → Int → Prop
  | 0, _, _ => False
  | n + 1, x1, x2 => brc (w32 (h 69 1) ≤ w32 x2) (Q x1) (p8_countOf x2 h fun r1 => brc (w32 r1 = 0) (p8_poor_L4 h Q n (io x1 (sl 1 x2)) (x2 + 1)) (p8_poor_L4 h Q n (io x1 0) (x2 + 1)))
def p8_poor  (h : HP) (Q : Int → Prop) : Prop := p8_poor_L4 h Q FUEL 0 0
def p8_told (x1 : Int) (h : HP) (Q : Int → Prop) : Prop := (((w32 x1 < 0 ∨ 7 < w32 x1) → Q (-1000000002)) ∧ (w32 x1 = 0 → Q (h 69 0)) ∧ (w32 x1 = 1 → Q (h 69 1)) ∧ (w32 x1 = 2 → Q (h 69 7)) ∧ (w32 x1 = 3 → Q (h 69 16)) ∧ (w32 x1 = 4 → Q (h 69 13)) ∧ (w32 x1 = 5 → Q (h 69 40)) ∧ (w32 x1 = 6 → p8_poor  h fun r1 => Q r1) ∧ (w32 x1 = 7 → p8_countOf (-1) h fun r2 => Q r2))
def p8_isHouse (x1 : Int) (h : HP) (Q : Int → Prop) : Prop := p8_in (w32 x1) 0 (w32 ((h 69 1) - 1)) h fun r1 => ((r1 = 0 ∨ r1 = 1) ∧ Q r1)
def p8_sortsOf_L4 (x1 : Int) (h : HP) (Q : Int → Prop) : Nat → Int → Int → Prop
  | 0, _, _ => False
  | n + 1, x2, x3 => brc (w32 (h 69 7) ≤ w32 x3) (Q x2) (rd h 75 32 x3 fun v1 => brc (w32 v1 = w32 x1) (rd h 74 32 x3 fun v2 => p8_sortsOf_L4 x1 h Q n (io x2 (sl 1 v2)) (x3 + 1)) (p8_sortsOf_L4 x1 h Q n (io x2 0) (x3 + 1)))
def p8_sortsOf (x1 : Int) (h : HP) (Q : Int → Prop) : Prop := p8_sortsOf_L4 x1 h Q FUEL 0 0
def p8_has (x0 x1 : Int) (h : HP) (Q : Int → Prop) : Prop := brc (w32 (ia (sr x0 x1) 1) = w32 1) (Q 1) (Q 0)
def p8_worthOf_L5 (x1 x2 : Int) (h : HP) (Q : Int → Prop) : Nat → Int → Int → Prop
  | 0, _, _ => False
  | n + 1, x3, x4 => brc (w32 (h 69 0) ≤ w32 x4) (Q x3) (p8_has x2 x4 h fun r1 => brc (w32 r1 = 0) (p8_worthOf_L5 x1 x2 h Q n (x3 + 0) (x4 + 1)) (rd h 71 30 ((6 * x1) + x4) fun v2 => p8_worthOf_L5 x1 x2 h Q n (x3 + v2) (x4 + 1)))
def p8_worthOf (x1 x2 : Int) (h : HP) (Q : Int → Prop) : Prop := p8_worthOf_L5 x1 x2 h Q FUEL 0 0
def p8_wealthOf (x1 : Int) (h : HP) (Q : Int → Prop) : Prop := p8_sortsOf x1 h fun r1 => p8_worthOf x1 r1 h fun r2 => Q r2
def p8_inYard_L4 (x1 : Int) (h : HP) (Q : Int → Prop) : Nat → Int → Int → Prop
  | 0, _, _ => False
  | n + 1, x2, x3 => brc (w32 (h 69 7) ≤ w32 x3) (Q x2) (rd h 75 32 x3 fun v1 => brc (0 ≤ w32 v1) (p8_inYard_L4 x1 h Q n (x2 + 0) (x3 + 1)) (rd h 76 32 x3 fun v2 => brc (w32 v2 = w32 x1) (p8_inYard_L4 x1 h Q n (x2 + 1) (x3 + 1)) (p8_inYard_L4 x1 h Q n (x2 + 0) (x3 + 1))))
def p8_inYard (x1 : Int) (h : HP) (Q : Int → Prop) : Prop := p8_inYard_L4 x1 h Q FUEL 0 0
def p8_house (x1 x2 : Int) (h : HP) (Q : Int → Prop) : Prop := p8_isHouse x1 h fun r1 => brc (w32 r1 = 0) (Q (-1000000001)) ((((w32 x2 < 0 ∨ 4 < w32 x2) → Q (-1000000002)) ∧ (w32 x2 = 0 → rd h 70 5 x1 fun v2 => Q v2) ∧ (w32 x2 = 1 → p8_countOf x1 h fun r3 => Q r3) ∧ (w32 x2 = 2 → p8_wealthOf x1 h fun r4 => Q r4) ∧ (w32 x2 = 3 → p8_sortsOf x1 h fun r5 => Q r5) ∧ (w32 x2 = 4 → p8_inYard x1 h fun r6 => Q r6)))
def p8_isSort (x1 : Int) (h : HP) (Q : Int → Prop) : Prop := p8_in (w32 x1) 0 (w32 ((h 69 0) - 1)) h fun r1 => ((r1 = 0 ∨ r1 = 1) ∧ Q r1)
def p8_worth (x1 x2 : Int) (h : HP) (Q : Int → Prop) : Prop := p8_isHouse x1 h fun r1 => brc (w32 r1 = 0) (Q (-1000000001)) (p8_isSort x2 h fun r2 => brc (w32 r2 = 0) (Q (-1000000001)) (rd h 71 30 ((6 * x1) + x2) fun v3 => Q v3))
def p8_isPart (x1 : Int) (h : HP) (Q : Int → Prop) : Prop := p8_in (w32 x1) 0 (w32 ((h 69 7) - 1)) h fun r1 => ((r1 = 0 ∨ r1 = 1) ∧ Q r1)
def p8_part (x1 x2 : Int) (h : HP) (Q : Int → Prop) : Prop := p8_isPart x1 h fun r1 => brc (w32 r1 = 0) (Q (-1000000001)) (brc (w32 x2 = 0) (rd h 74 32 x1 fun v6 => Q v6) (brc (w32 x2 = w32 1) (rd h 75 32 x1 fun v5 => Q v5) (brc (w32 x2 = w32 2) (rd h 75 32 x1 fun v3 => brc (0 ≤ w32 v3) (Q (-1)) (rd h 76 32 x1 fun v4 => Q v4)) (brc (w32 x2 = w32 3) (rd h 77 32 x1 fun v2 => Q v2) (Q (-1000000002))))))
def p8_hand (x1 x2 : Int) (h : HP) (Q : Int → Prop) : Prop := p8_isPart x1 h fun r1 => brc (w32 r1 = 0) (Q (-1000000001)) (rd h 77 32 x1 fun v2 => p8_in (w32 x2) 0 (w32 (v2 - 1)) h fun r3 => brc (w32 r3 = 0) (Q (-1)) (rd h 78 640 ((20 * x1) + x2) fun v4 => Q v4))
def p8_tossNow (x1 x2 : Int) (h : HP) (Q : HP → Prop) : Prop := wr h 75 32 x2 (-1) fun h1 => wr h1 76 32 x2 x1 fun h2 => Q h2
def p8_toss (x1 x2 : Int) (h : HP) (Q : Int → HP → Prop) : Prop := p8_isHouse x1 h fun r1 => brc (w32 r1 = 0) (Q (-1000000001) h) (p8_isPart x2 h fun r2 => brc (w32 r2 = 0) (Q (-1000000001) h) (rd h 75 32 x2 fun v3 => brc (w32 v3 = w32 x1) (p8_tossNow x1 x2 h fun h4 => p8_countOf x1 h4 fun r5 => Q r5 h4) (Q (-1000000003) h)))
def p8_mayTake (x1 x2 : Int) (h : HP) (Q : Int → Prop) : Prop := rd h 75 32 x2 fun v1 => brc (0 ≤ w32 v1) (Q 0) (rd h 76 32 x2 fun v2 => brc (w32 v2 = w32 x1) (Q 0) (p8_countOf x1 h fun r3 => brc (w32 4 ≤ w32 r3) (Q 0) (Q 1)))
def p8_takeNow (x1 x2 : Int) (h : HP) (Q : HP → Prop) : Prop := wr h 75 32 x2 x1 fun h1 => wr h1 76 32 x2 (-1) fun h2 => rd h2 77 32 x2 fun v3 => brc (w32 20 ≤ w32 v3) (Q h2) (rd h2 77 32 x2 fun v4 => wr h2 78 640 ((20 * x2) + v4) x1 fun h5 => rd h5 77 32 x2 fun v6 => wr h5 77 32 x2 (v6 + 1) fun h7 => Q h7)
def p8_take (x1 x2 : Int) (h : HP) (Q : Int → HP → Prop) : Prop := p8_isHouse x1 h fun r1 => brc (w32 r1 = 0) (Q (-1000000001) h) (p8_isPart x2 h fun r2 => brc (w32 r2 = 0) (Q (-1000000001) h) (p8_mayTake x1 x2 h fun r3 => brc (w32 r3 = 0) (Q (-1000000003) h) (p8_takeNow x1 x2 h fun h4 => p8_countOf x1 h4 fun r5 => Q r5 h4)))
def p8_ashoreNow (x1 : Int) (h : HP) (Q : Int → HP → Prop) : Prop := wr h 74 32 (h 69 7) x1 fun h1 => wr h1 75 32 (h1 69 7) (-1) fun h2 => wr h2 76 32 (h2 69 7) (-1) fun h3 => wr h3 77 32 (h3 69 7) 0 fun h4 => pf h4 69 7 ((h4 69 7) + 1) fun h5 => Q ((h5 69 7) - 1) h5
def p8_ashore (x1 : Int) (h : HP) (Q : Int → HP → Prop) : Prop := p8_isSort x1 h fun r1 => brc (w32 r1 = 0) (Q (-1000000001) h) (brc (w32 (h 69 7) = w32 32) (Q (-1000000004) h) (p8_ashoreNow x1 h fun r2 h3 => Q r2 h3))
def p8_gainOf (x1 x2 : Int) (h : HP) (Q : Int → Prop) : Prop := p8_sortsOf x1 h fun r1 => rd h 74 32 x2 fun v2 => p8_has r1 v2 h fun r3 => brc (w32 r3 = 0) (rd h 74 32 x2 fun v4 => rd h 71 30 ((6 * x1) + v4) fun v5 => Q v5) (Q 0)
def p8_size (x0 : Int) (h : HP) (Q : Int → Prop) : Prop := brc (0 ≤ w32 x0) (Q x0) (Q (-x0))
def p8_first_L54 (x1 x2 : Int) (h : HP) (Q : Int → Prop) : Nat → Int → Int → Prop
  | 0, _, _ => False
  | n + 1, x3, x4 => brc (w32 (h 69 1) ≤ w32 x4) (Q x3) (p8_mayTake x4 x1 h fun r9 => brc (w32 r9 = 0) (p8_first_L54 x1 x2 h Q n x3 (x4 + 1)) (p8_gainOf x4 x1 h fun r10 => brc (w32 r10 ≤ 0) (p8_first_L54 x1 x2 h Q n x3 (x4 + 1)) (jn (fun (y16 : Int) => brc (w32 x3 < 0) (p8_first_L54 x1 x2 h Q n x4 (x4 + 1)) (brc (w32 y16 < 0) (p8_first_L54 x1 x2 h Q n x4 (x4 + 1)) (brc (w32 y16 = 0) (p8_gainOf x4 x1 h fun r18 => p8_gainOf x3 x1 h fun r19 => brc (w32 r18 ≤ w32 r19) (p8_first_L54 x1 x2 h Q n x3 (x4 + 1)) (p8_first_L54 x1 x2 h Q n x4 (x4 + 1))) (p8_first_L54 x1 x2 h Q n x3 (x4 + 1))))) fun K17 => brc (0 ≤ w32 x3) (rd h 70 5 x4 fun v20 => p8_size (v20 - x2) h fun r21 => rd h 70 5 x3 fun v22 => p8_size (v22 - x2) h fun r23 => K17 (r21 - r23)) (K17 0))))
def p8_first (x1 : Int) (h : HP) (Q : Int → Prop) : Prop := p8_isPart x1 h fun r1 => brc (w32 r1 = 0) (Q (-1000000001)) (rd h 75 32 x1 fun v2 => brc (w32 v2 < 0) (rd h 76 32 x1 fun v3 => jn (fun (y7 : Int) => p8_first_L54 x1 y7 h Q FUEL (-1) 0) fun K8 => brc (0 ≤ w32 v3) (rd h 76 32 x1 fun v24 => rd h 70 5 v24 fun v25 => K8 v25) (K8 50)) (Q (-1000000003)))
def p8_bestTake_L7 (x1 : Int) (h : HP) (Q : Int → Prop) : Nat → Int → Int → Int → Prop
  | 0, _, _, _ => False
  | n + 1, x2, x3, x4 => brc (w32 (h 69 7) ≤ w32 x4) (Q x2) (p8_mayTake x1 x4 h fun r1 => jn (fun (y4 : Int) => jn (fun (y7 : Int) => brc (w32 y4 ≤ w32 x3) (p8_bestTake_L7 x1 h Q n y7 x3 (x4 + 1)) (p8_bestTake_L7 x1 h Q n y7 y4 (x4 + 1))) fun K8 => brc (w32 y4 ≤ w32 x3) (K8 x2) (K8 x4)) fun K5 => brc (w32 r1 = 0) (K5 0) (p8_gainOf x1 x4 h fun r9 => K5 r9))
def p8_bestTake (x1 : Int) (h : HP) (Q : Int → Prop) : Prop := p8_bestTake_L7 x1 h Q FUEL (-1) 0 0
def p8_isIdle_L5 (x1 x2 : Int) (h : HP) (E55 : Int → Prop) : Nat → Int → Int → Prop
  | 0, _, _ => False
  | n + 1, x3, x4 => brc (w32 (h 69 7) ≤ w32 x4) (E55 x3) (rd h 75 32 x4 fun v1 => brc (w32 v1 = w32 x1) (rd h 74 32 x4 fun v2 => rd h 74 32 x2 fun v3 => brc (w32 v2 = w32 v3) (p8_isIdle_L5 x1 x2 h E55 n (x3 + 1) (x4 + 1)) (p8_isIdle_L5 x1 x2 h E55 n (x3 + 0) (x4 + 1))) (p8_isIdle_L5 x1 x2 h E55 n (x3 + 0) (x4 + 1)))
def p8_isIdle (x1 x2 : Int) (h : HP) (Q : Int → Prop) : Prop := p8_isIdle_L5 x1 x2 h (fun (y4 : Int) => brc (w32 1 < w32 y4) (Q 1) (rd h 74 32 x2 fun v5 => rd h 71 30 ((6 * x1) + v5) fun v6 => brc (w32 v6 = 0) (Q 1) (Q 0))) FUEL 0 0
def p8_weekNow_L34 (x1 x2 : Int) (E77 : HP → Prop) : Nat → HP → Int → Prop
  | 0, _, _ => False
  | n + 1, h, x4 => brc (w32 (h 69 7) ≤ w32 x4) (E77 h) (rd h 75 32 x4 fun v8 => brc (w32 v8 = w32 x2) (p8_isIdle x2 x4 h fun r9 => brc (w32 r9 = 0) (p8_weekNow_L34 x1 x2 E77 n h (x4 + 1)) (p8_tossNow x2 x4 h fun h10 => p8_weekNow_L34 x1 x2 E77 n h10 (x4 + 1))) (p8_weekNow_L34 x1 x2 E77 n h (x4 + 1)))
def p8_weekNow_L4 (E83 : HP → Int → Prop) : Nat → HP → Int → Int → Prop
  | 0, _, _, _ => False
  | n + 1, h, x1, x2 => brc (w32 (h 69 1) ≤ w32 x2) (E83 h x1) (p8_bestTake x2 h fun r1 => jn (fun (y5 : Int) (h6 : HP) => p8_weekNow_L34 y5 x2 (fun (h11 : HP) => p8_weekNow_L4 E83 n h11 y5 (x2 + 1)) FUEL h6 0) fun K7 => brc (w32 r1 < 0) (K7 x1 h) (p8_takeNow x2 r1 h fun h12 => K7 (x1 + 1) h12))
def p8_weekNow  (h : HP) (Q : Int → HP → Prop) : Prop := p8_weekNow_L4 (fun (h13 : HP) (y14 : Int) => pf h13 69 13 ((h13 69 13) + 1) fun h15 => Q y14 h15) FUEL h 0 0
def p8_week_L19 (x1 : Int) (Q : Int → HP → Prop) : Nat → HP → Int → Int → Prop
  | 0, _, _, _ => False
  | n + 1, h, x2, x3 => brc (w32 x1 ≤ w32 x3) (Q x2 h) (p8_weekNow  h fun r2 h3 => p8_week_L19 x1 Q n h3 (x2 + r2) (x3 + 1))
def p8_week (x1 : Int) (h : HP) (Q : Int → HP → Prop) : Prop := p8_in (w32 x1) 1 99 h fun r1 => brc (w32 r1 = 0) (Q (-1000000002) h) (p8_week_L19 x1 Q FUEL h 0 0)
def p8_draw (x1 : Int) (h : HP) (Q : Int → HP → Prop) : Prop := pf h 69 14 (lm (((w32 (h 69 14)) * 1103515245) + 12345) 2147483648) fun h1 => (w32 x1 ≠ 0 ∧ Q (qm (qd (h1 69 14) 65536) x1) h1)
def p8_drift_L29 (x1 : Int) (Q : Int → HP → Prop) : Nat → HP → Int → Int → Prop
  | 0, _, _, _ => False
  | n + 1, h, x2, x3 => brc (w32 x1 ≤ w32 x3) (Q x2 h) (jn (fun (h7 : HP) => p8_weekNow  h7 fun r9 h10 => p8_drift_L29 x1 Q n h10 (x2 + r9) (x3 + 1)) fun K8 => brc (w32 32 ≤ w32 (h 69 7)) (K8 h) (p8_draw (h 69 0) h fun r11 h12 => p8_ashoreNow r11 h12 fun r13 h14 => K8 h14))
def p8_drift (x1 : Int) (h : HP) (Q : Int → HP → Prop) : Prop := p8_in (w32 x1) 1 99 h fun r1 => brc (w32 r1 = 0) (Q (-1000000002) h) (brc (w32 (h 69 0) = 0) (Q (-1000000003) h) (p8_drift_L29 x1 Q FUEL h 0 0))
def p8_gain (x1 x2 : Int) (h : HP) (Q : Int → Prop) : Prop := p8_isHouse x1 h fun r1 => brc (w32 r1 = 0) (Q (-1000000001)) (p8_isPart x2 h fun r2 => brc (w32 r2 = 0) (Q (-1000000001)) (p8_gainOf x1 x2 h fun r3 => Q r3))
def p8_save_L8 (x2 : Int) (E85 : HP → Prop) : Nat → HP → Int → Prop
  | 0, _, _ => False
  | n + 1, h, x3 => brc (w32 32 ≤ w32 x3) (E85 h) (rd h 74 32 x3 fun v1 => wr h 95 2400 (x2 + x3) v1 fun h2 => rd h2 75 32 x3 fun v3 => wr h2 95 2400 ((x2 + 32) + x3) v3 fun h4 => rd h4 76 32 x3 fun v5 => wr h4 95 2400 ((x2 + 64) + x3) v5 fun h6 => rd h6 77 32 x3 fun v7 => wr h6 95 2400 ((x2 + 96) + x3) v7 fun h8 => p8_save_L8 x2 E85 n h8 (x3 + 1))
def p8_save_L87 (x2 : Int) (E118 : HP → Prop) : Nat → HP → Int → Prop
  | 0, _, _ => False
  | n + 1, h, x3 => brc (w32 640 ≤ w32 x3) (E118 h) (rd h 78 640 x3 fun v10 => wr h 95 2400 ((x2 + 128) + x3) v10 fun h11 => p8_save_L87 x2 E118 n h11 (x3 + 1))
def p8_save (x1 : Int) (h : HP) (Q : HP → Prop) : Prop := p8_save_L8 (800 * x1) (fun (h9 : HP) => p8_save_L87 (800 * x1) (fun (h12 : HP) => wr h12 95 2400 ((800 * x1) + 768) (h12 69 7) fun h13 => wr h13 95 2400 ((800 * x1) + 769) (h13 69 13) fun h14 => wr h14 95 2400 ((800 * x1) + 770) (h14 69 14) fun h15 => Q h15) FUEL h9 0) FUEL h 0
def p8_load_L8 (x2 : Int) (E85 : HP → Prop) : Nat → HP → Int → Prop
  | 0, _, _ => False
  | n + 1, h, x3 => brc (w32 32 ≤ w32 x3) (E85 h) (rd h 95 2400 (x2 + x3) fun v1 => wr h 74 32 x3 v1 fun h2 => rd h2 95 2400 ((x2 + 32) + x3) fun v3 => wr h2 75 32 x3 v3 fun h4 => rd h4 95 2400 ((x2 + 64) + x3) fun v5 => wr h4 76 32 x3 v5 fun h6 => rd h6 95 2400 ((x2 + 96) + x3) fun v7 => wr h6 77 32 x3 v7 fun h8 => p8_load_L8 x2 E85 n h8 (x3 + 1))
def p8_load_L87 (x2 : Int) (E118 : HP → Prop) : Nat → HP → Int → Prop
  | 0, _, _ => False
  | n + 1, h, x3 => brc (w32 640 ≤ w32 x3) (E118 h) (rd h 95 2400 ((x2 + 128) + x3) fun v10 => wr h 78 640 x3 v10 fun h11 => p8_load_L87 x2 E118 n h11 (x3 + 1))
def p8_load (x1 : Int) (h : HP) (Q : HP → Prop) : Prop := p8_load_L8 (800 * x1) (fun (h9 : HP) => p8_load_L87 (800 * x1) (fun (h12 : HP) => rd h12 95 2400 ((800 * x1) + 768) fun v13 => pf h12 69 7 v13 fun h14 => rd h14 95 2400 ((800 * x1) + 769) fun v15 => pf h14 69 13 v15 fun h16 => rd h16 95 2400 ((800 * x1) + 770) fun v17 => pf h16 69 14 v17 fun h18 => Q h18) FUEL h9 0) FUEL h 0
def p8_down_L59 (x1 x2 x3 : Int) (E77 : HP → Prop) : Nat → HP → Int → Prop
  | 0, _, _ => False
  | n + 1, h, x4 => brc (w32 x2 ≤ w32 x4) (E77 h) (p8_weekNow  h fun r6 h7 => p8_down_L59 x1 x2 x3 E77 n h7 (x4 + 1))
def p8_down_L80 (x1 x2 x3 : Int) (E108 : HP → Prop) : Nat → HP → Int → Prop
  | 0, _, _ => False
  | n + 1, h, x4 => brc (w32 (h 69 1) ≤ w32 x4) (E108 h) (p8_wealthOf x4 h fun r9 => wr h 84 5 x4 r9 fun h10 => p8_down_L80 x1 x2 x3 E108 n h10 (x4 + 1))
def p8_down_L123 (x2 x3 : Int) (E141 : HP → Prop) : Nat → HP → Int → Prop
  | 0, _, _ => False
  | n + 1, h, x5 => brc (w32 x2 ≤ w32 x5) (E141 h) (p8_weekNow  h fun r15 h16 => p8_down_L123 x2 x3 E141 n h16 (x5 + 1))
def p8_down_L147 (x3 : Int) (h : HP) (E196 : Int → Prop) : Nat → Int → Int → Prop
  | 0, _, _ => False
  | n + 1, x5, x6 => brc (w32 (h 69 1) ≤ w32 x6) (E196 x5) (jn (p8_wealthOf x6 h fun r19 => rd h 84 5 x6 fun v20 => p8_down_L147 x3 h E196 n (x5 + (r19 - v20)) (x6 + 1)) fun K18 => brc (w32 x3 = w32 (-1)) (K18) (brc (w32 x6 = w32 x3) (K18) (p8_down_L147 x3 h E196 n (x5 + 0) (x6 + 1))))
def p8_down (x1 x2 x3 : Int) (h : HP) (Q : Int → HP → Prop) : Prop := p8_isSort x1 h fun r1 => brc (w32 r1 = 0) (Q (-1000000001) h) (jn (p8_in (w32 x2) 1 20 h fun r4 => brc (w32 r4 = 0) (Q (-1000000002) h) (brc (w32 (h 69 7) = w32 32) (Q (-1000000004) h) (p8_save 2 h fun h5 => p8_down_L59 x1 x2 x3 (fun (h8 : HP) => p8_down_L80 x1 x2 x3 (fun (h11 : HP) => p8_load 2 h11 fun h12 => p8_ashoreNow x1 h12 fun r13 h14 => p8_down_L123 x2 x3 (fun (h17 : HP) => p8_down_L147 x3 h17 (fun (y21 : Int) => p8_load 2 h17 fun h22 => Q y21 h22) FUEL 0 0) FUEL h14 0) FUEL h8 0) FUEL h5 0))) fun K3 => brc (w32 x3 = w32 (-1)) (K3) (p8_isHouse x3 h fun r23 => brc (w32 r23 = 0) (Q (-1000000001) h) (K3)))
def p8_fromOf (x1 : Int) (h : HP) (Q : Int → Prop) : Prop := rd h 75 32 x1 fun v1 => brc (0 ≤ w32 v1) (rd h 75 32 x1 fun v2 => Q v2) (rd h 76 32 x1 fun v3 => Q v3)
def p8_betterBy_L13 (x1 x3 : Int) (h : HP) (E63 : Int → Prop) : Nat → Int → Int → Prop
  | 0, _, _ => False
  | n + 1, x4, x5 => brc (w32 (h 69 7) ≤ w32 x5) (E63 x4) (rd h 75 32 x5 fun v2 => brc (w32 v2 = w32 x1) (brc (w32 x5 = w32 x3) (p8_betterBy_L13 x1 x3 h E63 n (io x4 0) (x5 + 1)) (rd h 74 32 x5 fun v3 => p8_betterBy_L13 x1 x3 h E63 n (io x4 (sl 1 v3)) (x5 + 1))) (p8_betterBy_L13 x1 x3 h E63 n (io x4 0) (x5 + 1)))
def p8_betterBy (x1 x2 x3 : Int) (h : HP) (Q : Int → Prop) : Prop := rd h 74 32 x2 fun v1 => p8_betterBy_L13 x1 x3 h (fun (y4 : Int) => p8_worthOf x1 y4 h fun r5 => p8_wealthOf x1 h fun r6 => Q (r5 - r6)) FUEL (sl 1 v1) 0
def p8_chain_L21 (x1 x2 : Int) (E55 : HP → Prop) : Nat → HP → Int → Prop
  | 0, _, _ => False
  | n + 1, h, x3 => brc (w32 (h 69 7) ≤ w32 x3) (E55 h) (rd h 75 32 x3 fun v3 => jn (fun (y5 : Int) => wr h 85 32 x3 y5 fun h7 => p8_chain_L21 x1 x2 E55 n h7 (x3 + 1)) fun K6 => brc (0 ≤ w32 v3) (K6 (-1)) (K6 0))
def p8_chain_L68 (x1 x2 x3 : Int) (h : HP) (E117 : Prop) (Q : Int → HP → Prop) : Nat → Int → Prop
  | 0, _ => False
  | n + 1, x4 => brc (w32 (h 69 7) ≤ w32 x4) (E117) (rd h 85 32 x4 fun v9 => brc (w32 v9 = w32 x3) (rd h 74 32 x4 fun v10 => brc (w32 v10 = w32 x2) (p8_fromOf x4 h fun r11 => brc (w32 r11 = w32 x1) (p8_chain_L68 x1 x2 x3 h E117 Q n (x4 + 1)) (Q x3 h)) (p8_chain_L68 x1 x2 x3 h E117 Q n (x4 + 1))) (p8_chain_L68 x1 x2 x3 h E117 Q n (x4 + 1)))
def p8_chain_L132 (x1 x2 x3 x4 : Int) (E245 : HP → Prop) : Nat → HP → Int → Prop
  | 0, _, _ => False
  | n + 1, h, x5 => brc (w32 (h 69 7) ≤ w32 x5) (E245 h) (rd h 85 32 x4 fun v12 => brc (w32 v12 = w32 x3) (rd h 85 32 x5 fun v13 => jn (fun (y20 : Int) => jn (fun (y24 : Int) => wr h 85 32 x5 y24 fun h26 => p8_chain_L132 x1 x2 x3 x4 E245 n h26 (x5 + 1)) fun K25 => brc (w32 y20 = 0) (rd h 85 32 x5 fun v27 => K25 v27) (K25 (x3 + 1))) fun K21 => jn (K21 0) fun K28 => brc (0 ≤ w32 v13) (K28) (rd h 75 32 x5 fun v29 => brc (w32 v29 = w32 x1) (K28) (rd h 75 32 x5 fun v30 => p8_fromOf x4 h fun r31 => brc (w32 v30 = w32 r31) (K28) (rd h 75 32 x5 fun v32 => p8_betterBy v32 x4 x5 h fun r33 => brc (w32 r33 ≤ 0) (K28) (K21 1))))) (E245 h))
def p8_chain_L120 (x1 x2 x3 : Int) (E251 : HP → Prop) : Nat → HP → Int → Prop
  | 0, _, _ => False
  | n + 1, h, x4 => brc (w32 (h 69 7) ≤ w32 x4) (E251 h) (p8_chain_L132 x1 x2 x3 x4 (fun (h34 : HP) => p8_chain_L120 x1 x2 x3 E251 n h34 (x4 + 1)) FUEL h 0)
def p8_chain_L57 (x1 x2 : Int) (Q : Int → HP → Prop) : Nat → HP → Int → Prop
  | 0, _, _ => False
  | n + 1, h, x3 => brc (w32 (h 69 7) < w32 x3) (Q (-1) h) (p8_chain_L68 x1 x2 x3 h (p8_chain_L120 x1 x2 x3 (fun (h35 : HP) => p8_chain_L57 x1 x2 Q n h35 (x3 + 1)) FUEL h 0) Q FUEL 0)
def p8_chain (x1 x2 : Int) (h : HP) (Q : Int → HP → Prop) : Prop := p8_isHouse x1 h fun r1 => brc (w32 r1 = 0) (Q (-1000000001) h) (p8_isSort x2 h fun r2 => brc (w32 r2 = 0) (Q (-1000000001) h) (p8_chain_L21 x1 x2 (fun (h8 : HP) => p8_chain_L57 x1 x2 Q FUEL h8 0) FUEL h 0))
def p8_areRings_L18 (E152 : HP → Int → Int → Int → Prop) : Nat → HP → Int → Int → Int → Int → Int → Prop
  | 0, _, _, _, _, _, _ => False
  | n + 1, h, x2, x3, x4, x5, x6 => brc (w32 x6 < 0) (E152 h x3 x4 x5) ((w32 ((h 69 1) + 1) ≠ 0 ∧ wr h 86 5 x6 ((qm x2 ((h 69 1) + 1)) - 1) fun h1 => (w32 ((h1 69 1) + 1) ≠ 0 ∧ jn (fun (y10 : Int) => rd h1 86 5 x6 fun v12 => jn (fun (y15 : Int) => rd h1 86 5 x6 fun v17 => brc (0 ≤ w32 v17) (p8_areRings_L18 E152 n h1 (qd x2 ((h1 69 1) + 1)) (io x3 y15) (io x4 (sl 1 x6)) y10 (x6 + (-1))) (p8_areRings_L18 E152 n h1 (qd x2 ((h1 69 1) + 1)) (io x3 y15) (io x4 0) y10 (x6 + (-1)))) fun K16 => brc (0 ≤ w32 v12) (rd h1 86 5 x6 fun v18 => K16 (sl 1 v18)) (K16 0)) fun K11 => jn (K11 0) fun K19 => brc (w32 x5 = 0) (K19) (rd h1 86 5 x6 fun v20 => brc (w32 v20 = w32 x6) (K19) (rd h1 86 5 x6 fun v21 => jn (K11 1) fun K24 => brc (w32 v21 < 0) (K24) (rd h1 86 5 x6 fun v25 => p8_has x3 v25 h1 fun r26 => brc (w32 r26 = 0) (K24) (K19)))))))
def p8_areRings (x1 : Int) (h : HP) (Q : Int → HP → Prop) : Prop := p8_areRings_L18 (fun (h27 : HP) (y28 : Int) (y29 : Int) (y30 : Int) => brc (w32 y30 = 0) (Q 0 h27) (brc (w32 y28 = w32 y29) (Q 1 h27) (Q 0 h27))) FUEL h x1 0 0 1 ((h 69 1) - 1)
def p8_partOf_L5 (x1 x2 : Int) (h : HP) (Q : Int → Prop) : Nat → Int → Int → Prop
  | 0, _, _ => False
  | n + 1, x3, x4 => brc (w32 (h 69 7) ≤ w32 x4) (Q (-1)) (rd h 75 32 x4 fun v1 => brc (w32 v1 = w32 x1) (brc (w32 x3 = w32 x2) (Q x4) (p8_partOf_L5 x1 x2 h Q n (x3 + 1) (x4 + 1))) (p8_partOf_L5 x1 x2 h Q n x3 (x4 + 1)))
def p8_partOf (x1 x2 : Int) (h : HP) (Q : Int → Prop) : Prop := p8_partOf_L5 x1 x2 h Q FUEL 0 0
def p8_areThrown_L12 (Q : Int → HP → Prop) : Nat → HP → Int → Int → Int → Prop
  | 0, _, _, _, _ => False
  | n + 1, h, x2, x3, x4 => brc (w32 x4 < 0) (((x3 = 0 ∨ x3 = 1) ∧ Q x3 h)) (wr h 87 5 x4 (-1) fun h1 => rd h1 86 5 x4 fun v2 => brc (w32 v2 < 0) (p8_areThrown_L12 Q n h1 x2 x3 (x4 + (-1))) (p8_partOf x4 (qm x2 4) h1 fun r3 => wr h1 87 5 x4 r3 fun h4 => brc (w32 x3 = 0) (p8_areThrown_L12 Q n h4 (qd x2 4) 0 (x4 + (-1))) (rd h4 87 5 x4 fun v5 => brc (w32 v5 < 0) (p8_areThrown_L12 Q n h4 (qd x2 4) 0 (x4 + (-1))) (p8_areThrown_L12 Q n h4 (qd x2 4) 1 (x4 + (-1))))))
def p8_areThrown (x1 : Int) (h : HP) (Q : Int → HP → Prop) : Prop := p8_areThrown_L12 Q FUEL h x1 1 ((h 69 1) - 1)
def p8_ringsSum_L4 (h : HP) (Q : Int → Prop) : Nat → Int → Int → Prop
  | 0, _, _ => False
  | n + 1, x1, x2 => brc (w32 (h 69 1) ≤ w32 x2) (Q x1) (rd h 86 5 x2 fun v1 => brc (w32 v1 < 0) (p8_ringsSum_L4 h Q n x1 (x2 + 1)) (rd h 86 5 x2 fun v2 => rd h 87 5 v2 fun v3 => rd h 87 5 x2 fun v4 => p8_betterBy x2 v3 v4 h fun r5 => brc (0 < w32 r5) (p8_ringsSum_L4 h Q n (x1 + r5) (x2 + 1)) (Q 0)))
def p8_ringsSum  (h : HP) (Q : Int → Prop) : Prop := p8_ringsSum_L4 h Q FUEL 0 0
def p8_findRings_L4 (x1 : Int) (E29 : HP → Prop) : Nat → HP → Int → Prop
  | 0, _, _ => False
  | n + 1, h, x2 => brc (w32 5 ≤ w32 x2) (E29 h) (wr h 88 5 x2 (-1) fun h1 => wr h1 89 5 x2 (-1) fun h2 => p8_findRings_L4 x1 E29 n h2 (x2 + 1))
def p8_findRings_L33 (x1 : Int) (h : HP) (E56 : Int → Prop) : Nat → Int → Int → Prop
  | 0, _, _ => False
  | n + 1, x2, x3 => brc (w32 (h 69 1) ≤ w32 x3) (E56 x2) (p8_findRings_L33 x1 h E56 n (x2 * ((h 69 1) + 1)) (x3 + 1))
def p8_findRings_L77 (x1 x2 x3 : Int) (h : HP) (E112 : Int → Prop) : Nat → Int → Int → Prop
  | 0, _, _ => False
  | n + 1, x4, x5 => brc (w32 (h 69 1) ≤ w32 x5) (E112 x4) (rd h 86 5 x5 fun v7 => brc (0 ≤ w32 v7) (p8_findRings_L77 x1 x2 x3 h E112 n (x4 * 4) (x5 + 1)) (p8_findRings_L77 x1 x2 x3 h E112 n (x4 * 1) (x5 + 1)))
def p8_findRings_L153 (x1 x2 x3 x4 x5 : Int) (E215 : HP → Prop) : Nat → HP → Int → Prop
  | 0, _, _ => False
  | n + 1, h, x7 => brc (w32 (h 69 1) ≤ w32 x7) (E215 h) (rd h 86 5 x7 fun v15 => jn (fun (y19 : Int) => wr h 88 5 x7 y19 fun h21 => rd h21 87 5 x7 fun v22 => wr h21 89 5 x7 v22 fun h23 => p8_findRings_L153 x1 x2 x3 x4 x5 E215 n h23 (x7 + 1)) fun K20 => brc (0 ≤ w32 v15) (rd h 86 5 x7 fun v24 => rd h 87 5 v24 fun v25 => K20 v25) (K20 (-1)))
def p8_findRings_L115 (x2 x3 x4 : Int) (E221 : HP → Int → Prop) : Nat → HP → Int → Int → Prop
  | 0, _, _, _ => False
  | n + 1, h, x1, x5 => brc (w32 x4 ≤ w32 x5) (E221 h x1) (p8_areThrown x5 h fun r9 h10 => jn (fun (y13 : Int) => brc (w32 y13 ≤ w32 x1) (p8_findRings_L115 x2 x3 x4 E221 n h10 x1 (x5 + 1)) (p8_findRings_L153 y13 x2 x3 x4 x5 (fun (h26 : HP) => p8_findRings_L115 x2 x3 x4 E221 n h26 y13 (x5 + 1)) FUEL h10 0)) fun K14 => brc (w32 r9 = 0) (K14 0) (p8_ringsSum  h10 fun r27 => K14 r27))
def p8_findRings_L58 (x2 : Int) (Q : Int → HP → Prop) : Nat → HP → Int → Int → Prop
  | 0, _, _, _ => False
  | n + 1, h, x1, x3 => brc (w32 x2 ≤ w32 x3) (Q x1 h) (p8_areRings x3 h fun r5 h6 => brc (w32 r5 = 0) (p8_findRings_L58 x2 Q n h6 x1 (x3 + 1)) (p8_findRings_L77 x1 x2 x3 h6 (fun (y8 : Int) => p8_findRings_L115 x2 x3 y8 (fun (h28 : HP) (y29 : Int) => p8_findRings_L58 x2 Q n h28 y29 (x3 + 1)) FUEL h6 x1 0) FUEL 1 0))
def p8_findRings  (h : HP) (Q : Int → HP → Prop) : Prop := p8_findRings_L4 0 (fun (h3 : HP) => p8_findRings_L33 0 h3 (fun (y4 : Int) => p8_findRings_L58 y4 Q FUEL h3 0 0) FUEL 1 0) FUEL h 0
def p8_rings (x1 x2 : Int) (h : HP) (Q : Int → HP → Prop) : Prop := jn (p8_in (w32 x2) 0 1 h fun r3 => brc (w32 r3 = 0) (Q (-1000000002) h) (p8_findRings  h fun r4 h5 => brc (w32 x1 = w32 (-1)) (Q r4 h5) (brc (w32 x2 = 0) (rd h5 89 5 x1 fun v7 => Q v7 h5) (rd h5 88 5 x1 fun v6 => Q v6 h5)))) fun K2 => brc (w32 x1 = w32 (-1)) (K2) (p8_isHouse x1 h fun r8 => brc (w32 r8 = 0) (Q (-1000000001) h) (K2))
def p8_oddsBy_L7 (x1 : Int) (h : HP) (Q : Int → Prop) : Nat → Int → Int → Prop
  | 0, _, _ => False
  | n + 1, x2, x4 => brc (w32 x1 ≤ w32 x4) (Q (1000000000 - x2)) ((w64 (w32 (h 69 0)) ≠ 0 ∧ p8_oddsBy_L7 x1 h Q n (ld (x2 * (w32 ((h 69 0) - 1))) (w32 (h 69 0))) (x4 + 1)))
def p8_oddsBy (x1 : Int) (h : HP) (Q : Int → Prop) : Prop := p8_oddsBy_L7 x1 h Q FUEL 1000000000 0
def p8_odds (x1 x2 : Int) (h : HP) (Q : Int → Prop) : Prop := p8_isSort x1 h fun r1 => brc (w32 r1 = 0) (Q (-1000000001)) (p8_in (w32 x2) 0 60 h fun r2 => brc (w32 r2 = 0) (Q (-1000000002)) (p8_oddsBy x2 h fun r3 => Q r3))
def p8_waits_L96 (x3 x7 : Int) (h : HP) (Q : Int → Prop) : Nat → Int → Int → Int → Prop
  | 0, _, _, _ => False
  | n + 1, x5, x9, x10 => brc (w32 60 < w32 x10) (Q x9) (p8_oddsBy x10 h fun r15 => jn (fun (y17 : Int) => brc (w32 (lc ((ld (x7 * r15) 1000000000) - ((w32 x10) * (w32 x3))) x5) ≤ 0) (p8_waits_L96 x3 x7 h Q n x5 y17 (x10 + 1)) (p8_waits_L96 x3 x7 h Q n ((ld (x7 * r15) 1000000000) - ((w32 x10) * (w32 x3))) y17 (x10 + 1))) fun K18 => brc (w32 (lc ((ld (x7 * r15) 1000000000) - ((w32 x10) * (w32 x3))) x5) ≤ 0) (K18 x9) (K18 x10))
def p8_waits (x1 x2 x3 : Int) (h : HP) (Q : Int → Prop) : Prop := p8_isHouse x1 h fun r1 => brc (w32 r1 = 0) (Q (-1000000001)) (p8_isSort x2 h fun r2 => brc (w32 r2 = 0) (Q (-1000000001)) (p8_in (w32 x3) 0 99 h fun r3 => brc (w32 r3 = 0) (Q (-1000000002)) (p8_bestTake x1 h fun r4 => jn (fun (y7 : Int) => p8_sortsOf x1 h fun r9 => p8_has r9 x2 h fun r10 => jn (fun (y13 : Int) => p8_waits_L96 x3 y13 h Q FUEL y7 (-1) 0) fun K14 => brc (w32 r10 = 0) (rd h 71 30 ((6 * x1) + x2) fun v19 => K14 (w32 v19)) (K14 0)) fun K8 => brc (0 ≤ w32 r4) (p8_gainOf x1 r4 h fun r20 => K8 (w32 r20)) (K8 0))))
def p8_findLie_L7 (x1 : Int) (Q : HP → Prop) : Nat → HP → Int → Prop
  | 0, _, _ => False
  | n + 1, h, x2 => brc (w32 (h 69 7) ≤ w32 x2) (Q h) (brc (w32 8 ≤ w32 (h 69 38)) (Q h) (rd h 75 32 x2 fun v2 => brc (0 ≤ w32 v2) (p8_findLie_L7 x1 Q n h (x2 + 1)) (rd h 76 32 x2 fun v3 => brc (w32 v3 = w32 x1) (wr h 90 8 (h 69 38) x2 fun h4 => pf h4 69 38 ((h4 69 38) + 1) fun h5 => p8_findLie_L7 x1 Q n h5 (x2 + 1)) (p8_findLie_L7 x1 Q n h (x2 + 1)))))
def p8_findLie (x1 : Int) (h : HP) (Q : HP → Prop) : Prop := pf h 69 38 0 fun h1 => p8_findLie_L7 x1 Q FUEL h1 0
def p8_power_L4 (x0 : Int) (h : HP) (Q : Int → Prop) : Nat → Int → Int → Prop
  | 0, _, _ => False
  | n + 1, x1, x2 => brc (w32 x0 ≤ w32 x2) (Q x1) (p8_power_L4 x0 h Q n (x1 * 9) (x2 + 1))
def p8_power (x0 : Int) (h : HP) (Q : Int → Prop) : Prop := p8_power_L4 x0 h Q FUEL 1 0
def p8_endOf_L17 (x1 x2 x3 x4 : Int) (h : HP) (E114 : Int → Int → Prop) : Nat → Int → Int → Int → Prop
  | 0, _, _, _ => False
  | n + 1, x5, x6, x7 => brc (w32 x3 ≤ w32 x7) (E114 x5 x6) (p8_power x7 h fun r3 => (w32 r3 ≠ 0 ∧ jn (fun (y7 : Int) => jn (fun (y10 : Int) => brc (w32 (qm x7 2) = 0) (p8_endOf_L17 x1 x2 x3 x4 h E114 n (io x5 y10) (io x6 0) (x7 + 1)) (p8_endOf_L17 x1 x2 x3 x4 h E114 n (io x5 y10) (io x6 y7) (x7 + 1))) fun K11 => brc (w32 (qm x7 2) = 0) (K11 y7) (K11 0)) fun K8 => jn (K8 0) fun K12 => brc (w32 (qm (qd x4 r3) 9) = 0) (K12) (brc (w32 (qm (qd x4 r3) 9) ≤ w32 (h 69 38)) (rd h 90 8 ((qm (qd x4 r3) 9) - 1) fun v13 => rd h 74 32 v13 fun v14 => K8 (sl 1 v14)) (K12))))
def p8_endOf (x1 x2 x3 x4 : Int) (h : HP) (Q : Int → Prop) : Prop := p8_sortsOf x1 h fun r1 => p8_sortsOf x2 h fun r2 => p8_endOf_L17 x1 x2 x3 x4 h (fun (y15 : Int) (y16 : Int) => p8_worthOf x1 y15 h fun r17 => p8_worthOf x2 y16 h fun r18 => Q (r17 - r18)) FUEL r1 r2 0
def p8_mayBe_L42 (x1 x2 x4 : Int) (h : HP) (E114 : Int → Int → Prop) : Nat → Int → Int → Int → Prop
  | 0, _, _, _ => False
  | n + 1, x5, x6, x7 => brc (w32 (x2 - 1) ≤ w32 x7) (E114 x5 x6) (p8_power x7 h fun r5 => (w32 r5 ≠ 0 ∧ jn (fun (y7 : Int) => brc (w32 (qm x7 2) = w32 (qm (x2 - 1) 2)) (brc (w32 (qm (qd x1 r5) 9) ≤ 0) (p8_mayBe_L42 x1 x2 x4 h E114 n (x5 + 0) y7 (x7 + 1)) (p8_mayBe_L42 x1 x2 x4 h E114 n (x5 + 1) y7 (x7 + 1))) (p8_mayBe_L42 x1 x2 x4 h E114 n (x5 + 0) y7 (x7 + 1))) fun K8 => jn (K8 0) fun K9 => brc (w32 x6 = 0) (K9) (brc (w32 (qm (qd x1 r5) 9) = w32 x4) (K9) (K8 1))))
def p8_mayBe (x1 x2 x3 : Int) (h : HP) (Q : Int → Prop) : Prop := p8_power (x2 - 1) h fun r1 => (w32 r1 ≠ 0 ∧ brc (w32 (qm (qd x1 r1) 9) = 0) (Q 1) (jn (fun (y3 : Int) => p8_mayBe_L42 x1 x2 (qm (qd x1 r1) 9) h (fun (y10 : Int) (y11 : Int) => brc (w32 y11 = 0) (Q 0) (brc (w32 4 ≤ w32 y10) (Q 0) (Q 1))) FUEL x3 y3 0) fun K4 => brc (w32 (h 69 38) < w32 (qm (qd x1 r1) 9)) (K4 0) (K4 1)))
def p8_turnsAt_L82 (x1 x2 x4 x5 : Int) (E115 : HP → Prop) : Nat → HP → Int → Prop
  | 0, _, _ => False
  | n + 1, h, x6 => p8_power x4 h fun r8 => brc (w32 r8 ≤ w32 x6) (E115 h) (p8_endOf x1 x2 x4 x6 h fun r9 => wr h 91 6561 x6 r9 fun h10 => p8_turnsAt_L82 x1 x2 x4 x5 E115 n h10 (x6 + 1))
def p8_turnsAt_L176 (x1 x2 x5 x7 x8 x9 : Int) (h : HP) (E292 : Int → Int → Prop) : Nat → Int → Int → Int → Prop
  | 0, _, _, _ => False
  | n + 1, x6, x10, x11 => brc (w32 9 ≤ w32 x11) (E292 x6 x10) (p8_power (x7 - 1) h fun r18 => p8_mayBe (x9 + (x11 * r18)) x7 x8 h fun r19 => jn (fun (y26 : Int) => jn (fun (y30 : Int) => brc (w32 y26 = 0) (p8_turnsAt_L176 x1 x2 x5 x7 x8 x9 h E292 n x6 y30 (x11 + 1)) (p8_turnsAt_L176 x1 x2 x5 x7 x8 x9 h E292 n x11 y30 (x11 + 1))) fun K31 => brc (w32 y26 = 0) (K31 x10) (rd h 91 6561 (x9 + (x11 * r18)) fun v32 => K31 v32)) fun K27 => jn (K27 0) fun K33 => brc (w32 r19 = 0) (K33) (jn (K27 1) fun K36 => brc (w32 (qm x7 2) = w32 1) (rd h 91 6561 (x9 + (x11 * r18)) fun v38 => brc (w32 v38 ≤ w32 x10) (K33) (K36)) (rd h 91 6561 (x9 + (x11 * r18)) fun v37 => brc (w32 x10 ≤ w32 v37) (K33) (K36))))
def p8_turnsAt_L149 (x1 x2 x5 x7 x8 : Int) (E307 : HP → Int → Prop) : Nat → HP → Int → Int → Prop
  | 0, _, _, _ => False
  | n + 1, h, x6, x9 => p8_power (x7 - 1) h fun r16 => brc (w32 r16 ≤ w32 x9) (E307 h x6) (rd h 91 6561 x9 fun v17 => p8_turnsAt_L176 x1 x2 x5 x7 x8 x9 h (fun (y39 : Int) (y40 : Int) => wr h 91 6561 x9 y40 fun h41 => p8_turnsAt_L149 x1 x2 x5 x7 x8 E307 n h41 y39 (x9 + 1)) FUEL 0 v17 1)
def p8_turnsAt_L122 (x1 x2 x5 : Int) (E313 : HP → Int → Prop) : Nat → HP → Int → Int → Prop
  | 0, _, _, _ => False
  | n + 1, h, x6, x7 => brc (w32 x7 ≤ 0) (E313 h x6) (jn (fun (y13 : Int) => p8_countOf y13 h fun r15 => p8_turnsAt_L149 x1 x2 x5 x7 r15 (fun (h42 : HP) (y43 : Int) => p8_turnsAt_L122 x1 x2 x5 E313 n h42 y43 (x7 + (-1))) FUEL h x6 0) fun K14 => brc (w32 (qm x7 2) = w32 1) (K14 x1) (K14 x2))
def p8_turnsAt (x1 x2 x3 x4 x5 : Int) (h : HP) (Q : Int → HP → Prop) : Prop := p8_isHouse x1 h fun r1 => brc (w32 r1 = 0) (Q (-1000000001) h) (p8_isHouse x2 h fun r2 => brc (w32 r2 = 0) (Q (-1000000001) h) (brc (w32 x1 = w32 x2) (Q (-1000000001) h) (jn (p8_in (w32 x4) 0 4 h fun r5 => brc (w32 r5 = 0) (Q (-1000000002) h) (p8_in (w32 x5) 0 1 h fun r6 => brc (w32 r6 = 0) (Q (-1000000002) h) (p8_findLie x3 h fun h7 => p8_turnsAt_L82 x1 x2 x4 x5 (fun (h11 : HP) => p8_turnsAt_L122 x1 x2 x5 (fun (h44 : HP) (y45 : Int) => brc (w32 x5 = 0) (rd h44 91 6561 0 fun v47 => Q v47 h44) (brc (w32 y45 = 0) (Q (-1) h44) (rd h44 90 8 (y45 - 1) fun v46 => Q v46 h44))) FUEL h11 0 x4) FUEL h7 0))) fun K4 => brc (w32 x3 = w32 (-1)) (K4) (p8_isHouse x3 h fun r48 => brc (w32 r48 = 0) (Q (-1000000001) h) (brc (w32 x3 = w32 x1) (Q (-1000000001) h) (brc (w32 x3 = w32 x2) (Q (-1000000001) h) (K4)))))))
def p8_write (x1 x2 x3 : Int) (h : HP) (Q : Int → HP → Prop) : Prop := p8_isHouse x1 h fun r1 => brc (w32 r1 = 0) (Q (-1000000001) h) (p8_isPart x2 h fun r2 => brc (w32 r2 = 0) (Q (-1000000001) h) (brc (w32 (h 69 40) = w32 40) (Q (-1000000004) h) (wr h 92 40 (h 69 40) x1 fun h3 => wr h3 93 40 (h3 69 40) x2 fun h4 => wr h4 94 40 (h4 69 40) (bb x3) fun h5 => pf h5 69 40 ((h5 69 40) + 1) fun h6 => Q (h6 69 40) h6)))
def p8_tear  (h : HP) (Q : Int → HP → Prop) : Prop := pf h 69 40 0 fun h1 => Q (h 69 40) h1
def p8_judge_L9 (E129 : HP → Int → Prop) : Nat → HP → Int → Int → Prop
  | 0, _, _, _ => False
  | n + 1, h, x1, x2 => brc (w32 (h 69 40) ≤ w32 x2) (E129 h x1) (brc (0 ≤ w32 x1) (E129 h x1) (rd h 92 40 x2 fun v2 => rd h 93 40 x2 fun v3 => jn (fun (y5 : Int) => jn (brc (w32 y5 = 0) (p8_judge_L9 E129 n h x2 (x2 + 1)) (rd h 94 40 x2 fun v11 => brc (w32 v11 = 0) (rd h 75 32 v3 fun v12 => brc (w32 v12 = w32 v2) (p8_tossNow v2 v3 h fun h13 => p8_judge_L9 E129 n h13 x1 (x2 + 1)) (p8_judge_L9 E129 n h x2 (x2 + 1))) (p8_judge_L9 E129 n h x2 (x2 + 1)))) fun K10 => brc (w32 y5 = 0) (K10) (rd h 94 40 x2 fun v14 => brc (w32 v14 = 0) (K10) (p8_mayTake v2 v3 h fun r15 => brc (w32 r15 = 0) (K10) (p8_takeNow v2 v3 h fun h16 => p8_judge_L9 E129 n h16 x1 (x2 + 1))))) fun K6 => brc (w32 (h 69 7) ≤ w32 v3) (K6 0) (K6 1)))
def p8_judge  (h : HP) (Q : Int → HP → Prop) : Prop := p8_save 2 h fun h1 => p8_judge_L9 (fun (h17 : HP) (y18 : Int) => p8_load 2 h17 fun h19 => Q y18 h19) FUEL h1 (-1) 0
def p8_seed (x1 : Int) (h : HP) (Q : Int → HP → Prop) : Prop := brc (0 ≤ w32 x1) (pf h 69 14 x1 fun h1 => Q (h 69 14) h1) (Q (-1000000002) h)
def p8_keep (x1 : Int) (h : HP) (Q : Int → HP → Prop) : Prop := p8_in (w32 x1) 0 1 h fun r1 => brc (w32 r1 = 0) (Q (-1000000001) h) (p8_save x1 h fun h2 => wr h2 96 2 x1 (bb 1) fun h3 => Q 1 h3)
def p8_goBack (x1 : Int) (h : HP) (Q : Int → HP → Prop) : Prop := p8_in (w32 x1) 0 1 h fun r1 => brc (w32 r1 = 0) (Q (-1000000001) h) (rd h 96 2 x1 fun v2 => brc (w32 v2 = 0) (Q (-1000000003) h) (p8_load x1 h fun h3 => Q 1 h3))
