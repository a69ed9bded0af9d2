def pJ_fill_L5 (c n : Nat) (x1 : Int) (Q : HP → Prop) : Nat → HP → Int → Prop
  | 0, _, _ => False
  | k + 1, h, x2 => brc (w32 (n : Int) ≤ w32 x2) (Q h) (wr h c n x2 x1 fun h1 => pJ_fill_L5 c n x1 Q k h1 (x2 + 1))
def pJ_fill (c n : Nat) (x1 : Int) (h : HP) (Q : HP → Prop) : Prop := pJ_fill_L5 c n x1 Q FUEL h 0
def strB : Nat → List Int
  | 0 => [115, 111, 114, 116, 115]
  | 1 => [104, 111, 117, 115, 101]
  | _ => [119, 111, 114, 116, 104]
def rdS (k : Nat) (i : Int) (K : Int → Prop) : Prop := inb i 5 ∧ K ((strB k).getD (ix i) 0)
def p7_feed_L34 (x2 : Int) (Q : Int → HP → Prop) : Nat → HP → Int → Prop
  | 0, _, _ => False
  | n + 1, h, x4 => brc (w32 x4 < 0) (Q (h 0 1) h) (wr h 1 400 (h 0 1) (ch (ch (la (lr x2 (8 * x4)) 255))) fun h1 => pf h1 0 1 ((h1 0 1) + 1) fun h2 => p7_feed_L34 x2 Q n h2 (x4 + (-1)))
def p7_feed (x1 x2 : Int) (h : HP) (Q : Int → HP → Prop) : Prop := brc (w32 x1 < w32 1) (Q (-1000000002) h) (brc (w32 x1 ≤ w32 8) (brc (w32 ((h 0 1) + x1) ≤ w32 400) (p7_feed_L34 x2 Q FUEL h (x1 - 1)) (Q (-1000000004) h)) (Q (-1000000002) h))
def p4_clear  (h : HP) (Q : HP → Prop) : Prop := pf h 7 0 0 fun h1 => pf h1 7 1 0 fun h2 => pf h2 7 2 0 fun h3 => pJ_fill 11 30 0 h3 fun h4 => Q h4
def p2_skipBlanks_L0 (Q : HP → Prop) : Nat → HP → Prop
  | 0, _ => False
  | n + 1, h => brc (w32 (h 12 2) ≤ w32 (h 12 3)) (Q h) (rd h 1 400 (h 12 3) fun v3 => brc (w32 v3 = w32 32) (pf h 12 3 ((h 12 3) + 1) fun h4 => p2_skipBlanks_L0 Q n h4) (Q h))
def p2_skipBlanks  (h : HP) (Q : HP → Prop) : Prop := brc (w32 (h 12 2) ≤ w32 (h 12 3)) (Q h) (rd h 1 400 (h 12 3) fun v1 => brc (w32 v1 = w32 32) (pf h 12 3 ((h 12 3) + 1) fun h2 => p2_skipBlanks_L0 Q FUEL h2) (Q h))
def p2_isWord_L17 (s : Nat) (x2 : Int) (h : HP) (Q : Int → Prop) : Nat → Int → Prop
  | 0, _ => False
  | n + 1, x3 => brc (w32 5 ≤ w32 x3) (Q 1) (rd h 1 400 (x2 + x3) fun v1 => rdS s x3 fun v2 => brc (w32 v1 = w32 v2) (p2_isWord_L17 s x2 h Q n (x3 + 1)) (Q 0))
def p2_isWord (s : Nat) (x2 : Int) (h : HP) (Q : Int → Prop) : Prop := brc (w32 ((h 12 3) - x2) = w32 5) (p2_isWord_L17 s x2 h Q FUEL 0) (Q 0)
def p2_isFigure (x0 : Int) (h : HP) (Q : Int → Prop) : Prop := brc (w32 x0 < w32 48) (Q 0) (brc (w32 57 < w32 x0) (Q 0) (Q 1))
def p2_numberFollows  (h : HP) (Q : Int → HP → Prop) : Prop := p2_skipBlanks  h fun h1 => brc (w32 (h1 12 2) ≤ w32 (h1 12 3)) (Q 0 h1) (rd h1 1 400 (h1 12 3) fun v2 => p2_isFigure v2 h1 fun r3 => brc (w32 r3 = 0) (Q 0 h1) (Q 1 h1))
def p2_fail (x1 x2 : Int) (h : HP) (Q : HP → Prop) : Prop := brc (w32 (h 12 6) = 0) (pf h 12 6 x1 fun h1 => pf h1 12 7 x2 fun h2 => Q h2) (Q h)
def p2_readNumber_L26 (x1 x2 x3 : Int) (E100 : HP → Int → Prop) : Nat → HP → Int → Prop
  | 0, _, _ => False
  | n + 1, h, x4 => brc (w32 (h 12 2) ≤ w32 (h 12 3)) (E100 h x4) (rd h 1 400 (h 12 3) fun v3 => p2_isFigure v3 h fun r4 => brc (w32 r4 = 0) (E100 h x4) (jn (fun (y7 : Int) => pf h 12 3 ((h 12 3) + 1) fun h9 => p2_readNumber_L26 x1 x2 x3 E100 n h9 y7) fun K8 => brc (w32 3 ≤ w32 ((h 12 3) - x3)) (K8 x4) (rd h 1 400 (h 12 3) fun v10 => K8 (((x4 * 10) + v10) - 48))))
def p2_readNumber (x1 x2 : Int) (h : HP) (Q : Int → HP → Prop) : Prop := p2_numberFollows  h fun r1 h2 => brc (w32 r1 = 0) (p2_fail 1 (h2 12 3) h2 fun h15 => Q (-1) h15) (p2_readNumber_L26 x1 x2 (h2 12 3) (fun (h11 : HP) (y12 : Int) => jn (p2_fail 2 (h2 12 3) h11 fun h14 => Q (-1) h14) fun K13 => brc (w32 3 < w32 ((h11 12 3) - (h2 12 3))) (K13) (brc (w32 y12 < w32 x1) (K13) (brc (w32 y12 ≤ w32 x2) (Q y12 h11) (K13)))) FUEL h2 0)
def p2_readEnd  (h : HP) (Q : Int → HP → Prop) : Prop := p2_skipBlanks  h fun h1 => jn (fun (h6 : HP) => brc (w32 (h6 12 6) = 0) (Q 1 h6) (Q 0 h6)) fun K7 => jn (p2_fail 1 (h1 12 3) h1 fun h9 => K7 h9) fun K8 => brc (w32 (h1 12 2) ≤ w32 (h1 12 3)) (K8) (rd h1 1 400 (h1 12 3) fun v10 => brc (w32 v10 = w32 59) (pf h1 12 3 ((h1 12 3) + 1) fun h11 => K7 h11) (K8))
def p2_readHouse_L28 (x2 : Int) (E158 : HP → Prop) : Nat → HP → Int → Prop
  | 0, _, _ => False
  | n + 1, h, x3 => brc (w32 4 < w32 x3) (E158 h) (brc (w32 (h 12 6) = 0) (p2_numberFollows  h fun r3 h4 => brc (w32 r3 = 0) (E158 h4) (p2_readNumber 0 ((h4 7 0) - 1) h4 fun r5 h6 => jn (fun (h9 : HP) => brc (w32 (h9 12 6) = 0) (brc (w32 20 ≤ w32 (h9 7 2)) (p2_readHouse_L28 x2 E158 n h9 (x3 + 1)) (wr h9 9 20 (h9 7 2) r5 fun h11 => wr h11 10 20 (h11 7 2) (h11 7 1) fun h12 => pf h12 7 2 ((h12 7 2) + 1) fun h13 => p2_readHouse_L28 x2 E158 n h13 (x3 + 1))) (p2_readHouse_L28 x2 E158 n h9 (x3 + 1))) fun K10 => brc (w32 x3 = w32 4) (p2_fail 4 (h4 12 3) h6 fun h14 => K10 h14) (K10 h6))) (E158 h))
def p2_readHouse (x1 : Int) (h : HP) (Q : HP → Prop) : Prop := brc (w32 (h 7 1) < w32 5) (p2_readNumber 0 99 h fun r1 h2 => p2_readHouse_L28 r1 (fun (h15 : HP) => p2_readEnd  h15 fun r16 h17 => brc (w32 r16 = 0) (Q h17) (wr h17 8 5 (h17 7 1) r1 fun h18 => pf h18 7 1 ((h18 7 1) + 1) fun h19 => Q h19)) FUEL h2 0) (p2_fail 3 x1 h fun h20 => Q h20)
def p2_readWorth (x1 : Int) (h : HP) (Q : HP → Prop) : Prop := brc (w32 (h 12 4) < w32 30) (p2_readNumber 0 ((h 7 1) - 1) h fun r1 h2 => p2_skipBlanks  h2 fun h3 => p2_readNumber 0 ((h3 7 0) - 1) h3 fun r4 h5 => jn (fun (h8 : HP) => p2_readNumber 0 99 h8 fun r10 h11 => p2_readEnd  h11 fun r12 h13 => brc (w32 r12 = 0) (Q h13) (wr h13 11 30 ((r1 * 6) + r4) r10 fun h14 => pf h14 12 5 (io (h14 12 5) (sl 1 ((r1 * 6) + r4))) fun h15 => pf h15 12 4 ((h15 12 4) + 1) fun h16 => Q h16)) fun K9 => brc (w32 (h5 12 6) = 0) (brc (w32 (ia (sr (h5 12 5) ((r1 * 6) + r4)) 1) = w32 1) (p2_fail 4 (h3 12 3) h5 fun h17 => K9 h17) (K9 h5)) (K9 h5)) (p2_fail 3 x1 h fun h18 => Q h18)
def p2_readSorts (x1 : Int) (h : HP) (Q : HP → Prop) : Prop := brc (w32 (h 7 0) ≤ 0) (p2_readNumber 1 6 h fun r1 h2 => p2_readEnd  h2 fun r3 h4 => brc (w32 r3 = 0) (Q h4) (pf h4 7 0 r1 fun h5 => Q h5)) (p2_fail 3 x1 h fun h6 => Q h6)
def p2_readClause_L5 (x1 : Int) (E57 : HP → Prop) : Nat → HP → Prop
  | 0, _ => False
  | n + 1, h => brc (w32 (h 12 2) ≤ w32 (h 12 3)) (E57 h) (rd h 1 400 (h 12 3) fun v1 => brc (w32 v1 < w32 97) (E57 h) (rd h 1 400 (h 12 3) fun v2 => brc (w32 122 < w32 v2) (E57 h) (pf h 12 3 ((h 12 3) + 1) fun h3 => p2_readClause_L5 x1 E57 n h3)))
def p2_readClause  (h : HP) (Q : HP → Prop) : Prop := p2_readClause_L5 (h 12 3) (fun (h4 : HP) => p2_isWord 0 (h 12 3) h4 fun r5 => brc (w32 r5 = 0) (jn (jn (p2_fail 1 (h 12 3) h4 fun h12 => Q h12) fun K11 => brc (w32 (h4 7 0) ≤ 0) (K11) (p2_isWord 2 (h 12 3) h4 fun r13 => brc (w32 r13 = 0) (K11) (p2_readWorth (h 12 3) h4 fun h14 => Q h14))) fun K8 => brc (w32 (h4 7 0) ≤ 0) (K8) (p2_isWord 1 (h 12 3) h4 fun r15 => brc (w32 r15 = 0) (K8) (p2_readHouse (h 12 3) h4 fun h16 => Q h16))) (p2_readSorts (h 12 3) h4 fun h17 => Q h17)) FUEL h
def p2_readText_L51 (E90 : HP → Prop) : Nat → HP → Int → Prop
  | 0, _, _ => False
  | n + 1, h, x2 => brc (w32 400 ≤ w32 x2) (E90 h) (brc (w32 (h 12 2) ≤ w32 (h 12 3)) (E90 h) (brc (w32 (h 12 6) = 0) (p2_readClause  h fun h9 => p2_skipBlanks  h9 fun h10 => p2_readText_L51 E90 n h10 (x2 + 1)) (E90 h)))
def p2_readText (x1 : Int) (h : HP) (Q : Int → HP → Prop) : Prop := pf h 12 2 (mn x1 400) fun h1 => pf h1 12 3 0 fun h2 => pf h2 12 4 0 fun h3 => pf h3 12 5 0 fun h4 => pf h4 12 6 0 fun h5 => pf h5 12 7 (-1) fun h6 => p4_clear  h6 fun h7 => p2_skipBlanks  h7 fun h8 => p2_readText_L51 (fun (h11 : HP) => brc (w32 (h11 12 6) = 0) (Q 1 h11) (Q 0 h11)) FUEL h8 0
def p4_copyFrom  (h : HP) (Q : HP → Prop) : Prop := pf h 2 0 (h 7 0) fun h1 => pf h1 2 1 (h1 7 1) fun h2 => pf h2 2 2 (h2 7 2) fun h3 => cpw h3 8 3 5 fun h4 => cpw h4 9 4 20 fun h5 => cpw h5 10 5 20 fun h6 => cpw h6 11 6 30 fun h7 => Q h7
def p5_handOver (b : Nat) (x1 x2 : Int) (h : HP) (Q : HP → Prop) : Prop := wr h (b + 2) 32 x2 x1 fun h1 => wr h1 (b + 3) 32 x2 (-1) fun h2 => rd h2 (b + 6) 5 x1 fun v3 => wr h2 (b + 6) 5 x1 (v3 + 1) fun h4 => rd h4 (b + 1) 32 x2 fun v5 => rd h4 (b + 7) 30 ((x1 * 6) + v5) fun v6 => wr h4 (b + 7) 30 ((x1 * 6) + v5) (v6 + 1) fun h7 => rd h7 (b + 4) 32 x2 fun v8 => brc (w32 20 ≤ w32 v8) (Q h7) (rd h7 (b + 4) 32 x2 fun v9 => wr h7 (b + 5) 640 ((x2 * 20) + v9) x1 fun h10 => rd h10 (b + 4) 32 x2 fun v11 => wr h10 (b + 4) 32 x2 (v11 + 1) fun h12 => Q h12)
def p5_addPart (b : Nat) (x1 x2 : Int) (h : HP) (Q : Int → HP → Prop) : Prop := brc (w32 (h b 1) < w32 32) (pf h b 1 ((h b 1) + 1) fun h1 => wr h1 (b + 1) 32 (h b 1) x1 fun h2 => wr h2 (b + 2) 32 (h b 1) (-1) fun h3 => wr h3 (b + 3) 32 (h b 1) (-1) fun h4 => wr h4 (b + 4) 32 (h b 1) 0 fun h5 => brc (w32 x2 = w32 (-1)) (Q 1 h5) (p5_handOver b x2 (h b 1) h5 fun h6 => Q 1 h6)) (Q 0 h)
def p5_layOut_L28 (b : Nat) (Q : HP → Prop) : Nat → HP → Int → Prop
  | 0, _, _ => False
  | n + 1, h, x1 => brc (w32 (h 2 2) ≤ w32 x1) (Q h) (rd h 4 20 x1 fun v5 => rd h 5 20 x1 fun v6 => p5_addPart b v5 v6 h fun r7 h8 => p5_layOut_L28 b Q n h8 (x1 + 1))
def p5_layOut (b : Nat) (h : HP) (Q : HP → Prop) : Prop := pf h b 1 0 fun h1 => pf h1 b 2 0 fun h2 => pJ_fill (b + 6) 5 0 h2 fun h3 => pJ_fill (b + 7) 30 0 h3 fun h4 => p5_layOut_L28 b Q FUEL h4 0
def p7_spit_L76 (Q : Int → HP → Prop) : Nat → HP → Int → Prop
  | 0, _, _ => False
  | n + 1, h, x2 => brc (w32 2 ≤ w32 x2) (Q (h 13 1) h) (wr h 46 2 x2 (bb 0) fun h8 => p7_spit_L76 Q n h8 (x2 + 1))
def p7_spit  (h : HP) (Q : Int → HP → Prop) : Prop := p2_readText (h 0 1) h fun r1 h2 => pf h2 0 1 0 fun h3 => brc (w32 r1 = 0) (pf h3 0 2 (h3 12 7) fun h9 => Q ((-10) - (h9 12 6)) h9) (pf h3 0 2 (-1) fun h4 => p4_copyFrom  h4 fun h5 => p5_layOut 13 h5 fun h6 => pf h6 47 0 0 fun h7 => p7_spit_L76 Q FUEL h7 0)
def p7_fault  (h : HP) (Q : Int → Prop) : Prop := Q (h 0 2)
def p5_poorHouses_L4 (b : Nat) (h : HP) (Q : Int → Prop) : Nat → Int → Int → Prop
  | 0, _, _ => False
  | n + 1, x1, x2 => brc (w32 (h 2 1) ≤ w32 x2) (Q x1) (rd h (b + 6) 5 x2 fun v1 => brc (w32 v1 = 0) (p5_poorHouses_L4 b h Q n (io x1 (sl 1 x2)) (x2 + 1)) (p5_poorHouses_L4 b h Q n x1 (x2 + 1)))
def p5_poorHouses (b : Nat) (h : HP) (Q : Int → Prop) : Prop := p5_poorHouses_L4 b h Q FUEL 0 0
def p5_lies (b : Nat) (x1 : Int) (h : HP) (Q : Int → Prop) : Prop := rd h (b + 2) 32 x1 fun v1 => brc (w32 v1 = w32 (-1)) (Q 1) (Q 0)
def p5_countLying_L4 (b : Nat) (h : HP) (Q : Int → Prop) : Nat → Int → Int → Prop
  | 0, _, _ => False
  | n + 1, x1, x2 => brc (w32 (h b 1) ≤ w32 x2) (Q x1) (p5_lies b x2 h fun r1 => brc (w32 r1 = 0) (p5_countLying_L4 b h Q n x1 (x2 + 1)) (p5_countLying_L4 b h Q n (x1 + 1) (x2 + 1)))
def p5_countLying (b : Nat) (h : HP) (Q : Int → Prop) : Prop := p5_countLying_L4 b h Q FUEL 0 0
def p7_told (x1 : Int) (h : HP) (Q : Int → Prop) : Prop := (((w32 x1 < 0 ∨ 7 < w32 x1) → Q (-1000000002)) ∧ (w32 x1 = 0 → Q (h 2 0)) ∧ (w32 x1 = 1 → Q (h 2 1)) ∧ (w32 x1 = 2 → Q (h 13 1)) ∧ (w32 x1 = 3 → Q (h 0 1)) ∧ (w32 x1 = 4 → Q (h 13 2)) ∧ (w32 x1 = 5 → Q (h 47 0)) ∧ (w32 x1 = 6 → p5_poorHouses 13 h fun r1 => Q r1) ∧ (w32 x1 = 7 → p5_countLying 13 h fun r2 => Q r2))
def p4_isHouse (x1 : Int) (h : HP) (Q : Int → Prop) : Prop := brc (w32 x1 < 0) (Q 0) (brc (w32 (h 2 1) ≤ w32 x1) (Q 0) (Q 1))
def p4_worthOf (x1 x2 : Int) (h : HP) (Q : Int → Prop) : Prop := rd h 6 30 ((x1 * 6) + x2) fun v1 => Q v1
def p5_wealthOf_L4 (b : Nat) (x1 : Int) (h : HP) (Q : Int → Prop) : Nat → Int → Int → Prop
  | 0, _, _ => False
  | n + 1, x2, x3 => brc (w32 (h 2 0) ≤ w32 x3) (Q x2) (rd h (b + 7) 30 ((x1 * 6) + x3) fun v1 => brc (w32 v1 ≤ 0) (p5_wealthOf_L4 b x1 h Q n x2 (x3 + 1)) (p4_worthOf x1 x3 h fun r2 => p5_wealthOf_L4 b x1 h Q n (x2 + r2) (x3 + 1)))
def p5_wealthOf (b : Nat) (x1 : Int) (h : HP) (Q : Int → Prop) : Prop := p5_wealthOf_L4 b x1 h Q FUEL 0 0
def p5_sortsHad_L4 (b : Nat) (x1 : Int) (h : HP) (Q : Int → Prop) : Nat → Int → Int → Prop
  | 0, _, _ => False
  | n + 1, x2, x3 => brc (w32 (h 2 0) ≤ w32 x3) (Q x2) (rd h (b + 7) 30 ((x1 * 6) + x3) fun v1 => brc (w32 v1 ≤ 0) (p5_sortsHad_L4 b x1 h Q n x2 (x3 + 1)) (p5_sortsHad_L4 b x1 h Q n (io x2 (sl 1 x3)) (x3 + 1)))
def p5_sortsHad (b : Nat) (x1 : Int) (h : HP) (Q : Int → Prop) : Prop := p5_sortsHad_L4 b x1 h Q FUEL 0 0
def p5_countInYard_L4 (b : Nat) (x1 : Int) (h : HP) (Q : Int → Prop) : Nat → Int → Int → Prop
  | 0, _, _ => False
  | n + 1, x2, x3 => brc (w32 (h b 1) ≤ w32 x3) (Q x2) (rd h (b + 3) 32 x3 fun v1 => brc (w32 v1 = w32 x1) (p5_countInYard_L4 b x1 h Q n (x2 + 1) (x3 + 1)) (p5_countInYard_L4 b x1 h Q n x2 (x3 + 1)))
def p5_countInYard (b : Nat) (x1 : Int) (h : HP) (Q : Int → Prop) : Prop := p5_countInYard_L4 b x1 h Q FUEL 0 0
def p7_house (x1 x2 : Int) (h : HP) (Q : Int → Prop) : Prop := p4_isHouse x1 h fun r1 => brc (w32 r1 = 0) (Q (-1000000001)) ((((w32 x2 < 0 ∨ 4 < w32 x2) → Q (-1000000002)) ∧ (w32 x2 = 0 → rd h 3 5 x1 fun v2 => Q v2) ∧ (w32 x2 = 1 → rd h 19 5 x1 fun v3 => Q v3) ∧ (w32 x2 = 2 → p5_wealthOf 13 x1 h fun r4 => Q r4) ∧ (w32 x2 = 3 → p5_sortsHad 13 x1 h fun r5 => Q r5) ∧ (w32 x2 = 4 → p5_countInYard 13 x1 h fun r6 => Q r6)))
def p4_isSort (x1 : Int) (h : HP) (Q : Int → Prop) : Prop := brc (w32 x1 < 0) (Q 0) (brc (w32 (h 2 0) ≤ w32 x1) (Q 0) (Q 1))
def p7_worth (x1 x2 : Int) (h : HP) (Q : Int → Prop) : Prop := p4_isHouse x1 h fun r1 => brc (w32 r1 = 0) (Q (-1000000001)) (p4_isSort x2 h fun r2 => brc (w32 r2 = 0) (Q (-1000000001)) (p4_worthOf x1 x2 h fun r3 => Q r3))
def p5_isPart (b : Nat) (x1 : Int) (h : HP) (Q : Int → Prop) : Prop := brc (w32 x1 < 0) (Q 0) (brc (w32 (h b 1) ≤ w32 x1) (Q 0) (Q 1))
def p7_part (x1 x2 : Int) (h : HP) (Q : Int → Prop) : Prop := p5_isPart 13 x1 h fun r1 => brc (w32 r1 = 0) (Q (-1000000001)) ((((w32 x2 < 0 ∨ 3 < w32 x2) → Q (-1000000002)) ∧ (w32 x2 = 0 → rd h 14 32 x1 fun v2 => Q v2) ∧ (w32 x2 = 1 → rd h 15 32 x1 fun v3 => Q v3) ∧ (w32 x2 = 2 → rd h 16 32 x1 fun v4 => Q v4) ∧ (w32 x2 = 3 → rd h 17 32 x1 fun v5 => Q v5)))
def p7_hand (x1 x2 : Int) (h : HP) (Q : Int → Prop) : Prop := p5_isPart 13 x1 h fun r1 => brc (w32 r1 = 0) (Q (-1000000001)) (brc (w32 x2 < 0) (Q (-1)) (rd h 17 32 x1 fun v2 => brc (w32 x2 < w32 v2) (rd h 18 640 ((x1 * 20) + x2) fun v3 => Q v3) (Q (-1))))
def p5_throwOut (b : Nat) (x1 x2 : Int) (h : HP) (Q : Int → HP → Prop) : Prop := rd h (b + 2) 32 x2 fun v1 => brc (w32 v1 = w32 x1) (wr h (b + 2) 32 x2 (-1) fun h2 => wr h2 (b + 3) 32 x2 x1 fun h3 => rd h3 (b + 6) 5 x1 fun v4 => wr h3 (b + 6) 5 x1 (v4 - 1) fun h5 => rd h5 (b + 1) 32 x2 fun v6 => rd h5 (b + 7) 30 ((x1 * 6) + v6) fun v7 => wr h5 (b + 7) 30 ((x1 * 6) + v6) (v7 - 1) fun h8 => pf h8 b 4 ((h8 b 4) + 1) fun h9 => Q 1 h9) (Q 0 h)
def p7_toss (x1 x2 : Int) (h : HP) (Q : Int → HP → Prop) : Prop := p4_isHouse x1 h fun r1 => brc (w32 r1 = 0) (Q (-1000000001) h) (p5_isPart 13 x2 h fun r2 => brc (w32 r2 = 0) (Q (-1000000001) h) (p5_throwOut 13 x1 x2 h fun r3 h4 => brc (w32 r3 = 0) (Q (-1000000003) h4) (rd h4 19 5 x1 fun v5 => Q v5 h4)))
def p5_mayTake (b : Nat) (x1 x2 : Int) (h : HP) (Q : Int → Prop) : Prop := rd h (b + 6) 5 x1 fun v1 => brc (w32 4 ≤ w32 v1) (Q 0) (p5_lies b x2 h fun r2 => brc (w32 r2 = 0) (Q 0) (rd h (b + 3) 32 x2 fun v3 => brc (w32 v3 = w32 x1) (Q 0) (Q 1)))
def p5_carryHome (b : Nat) (x1 x2 : Int) (h : HP) (Q : Int → HP → Prop) : Prop := p5_mayTake b x1 x2 h fun r1 => brc (w32 r1 = 0) (Q 0 h) (p5_handOver b x1 x2 h fun h2 => pf h2 b 4 ((h2 b 4) + 1) fun h3 => Q 1 h3)
def p7_take (x1 x2 : Int) (h : HP) (Q : Int → HP → Prop) : Prop := p4_isHouse x1 h fun r1 => brc (w32 r1 = 0) (Q (-1000000001) h) (p5_isPart 13 x2 h fun r2 => brc (w32 r2 = 0) (Q (-1000000001) h) (p5_carryHome 13 x1 x2 h fun r3 h4 => brc (w32 r3 = 0) (Q (-1000000003) h4) (rd h4 19 5 x1 fun v5 => Q v5 h4)))
def p7_ashore (x1 : Int) (h : HP) (Q : Int → HP → Prop) : Prop := p4_isSort x1 h fun r1 => brc (w32 r1 = 0) (Q (-1000000001) h) (p5_addPart 13 x1 (-1) h fun r2 h3 => brc (w32 r2 = 0) (Q (-1000000004) h3) (Q ((h3 13 1) - 1) h3))
def p5_gainOf (b : Nat) (x1 x2 : Int) (h : HP) (Q : Int → Prop) : Prop := rd h (b + 7) 30 ((x1 * 6) + x2) fun v1 => brc (w32 v1 = 0) (p4_worthOf x1 x2 h fun r2 => Q r2) (Q 0)
def p5_firstAt_L41 (b : Nat) (x1 x2 : Int) (h : HP) (Q : Int → Prop) : Nat → Int → Int → Int → Int → Prop
  | 0, _, _, _, _ => False
  | n + 1, x3, x4, x5, x6 => brc (w32 (h 2 1) ≤ w32 x6) (Q x3) (rd h (b + 1) 32 x1 fun v7 => p5_gainOf b x6 v7 h fun r8 => rd h 3 5 x6 fun v9 => jn (fun (y12 : Int) => brc (w32 r8 ≤ 0) (p5_firstAt_L41 b x1 x2 h Q n x3 x4 x5 (x6 + 1)) (p5_mayTake b x6 x1 h fun r14 => brc (w32 r14 = 0) (p5_firstAt_L41 b x1 x2 h Q n x3 x4 x5 (x6 + 1)) (brc (w32 y12 = 0) (p5_firstAt_L41 b x1 x2 h Q n x3 x4 x5 (x6 + 1)) (p5_firstAt_L41 b x1 x2 h Q n x6 (ab (v9 - x2)) r8 (x6 + 1))))) fun K13 => jn (K13 1) fun K15 => brc (w32 x3 = w32 (-1)) (K15) (brc (w32 (ab (v9 - x2)) < w32 x4) (K15) (jn (K13 0) fun K16 => brc (w32 (ab (v9 - x2)) = w32 x4) (brc (w32 r8 ≤ w32 x5) (K16) (K15)) (K16))))
def p5_firstAt (b : Nat) (x1 : Int) (h : HP) (Q : Int → Prop) : Prop := rd h (b + 3) 32 x1 fun v1 => jn (fun (y5 : Int) => p5_firstAt_L41 b x1 y5 h Q FUEL (-1) 0 0 0) fun K6 => brc (w32 v1 = w32 (-1)) (K6 50) (rd h (b + 3) 32 x1 fun v17 => rd h 3 5 v17 fun v18 => K6 v18)
def p7_first (x1 : Int) (h : HP) (Q : Int → Prop) : Prop := p5_isPart 13 x1 h fun r1 => brc (w32 r1 = 0) (Q (-1000000001)) (p5_lies 13 x1 h fun r2 => brc (w32 r2 = 0) (Q (-1000000003)) (p5_firstAt 13 x1 h fun r3 => Q r3))
def p5_draw (b : Nat) (x1 : Int) (h : HP) (Q : Int → HP → Prop) : Prop := pf h b 3 (la (((w32 (h b 3)) * 1103515245) + 12345) 2147483647) fun h1 => brc (w32 x1 ≤ 0) (Q 0 h1) ((w32 x1 ≠ 0 ∧ Q (qm (qd (h1 b 3) 65536) x1) h1))
def p5_comeByDraw (b : Nat) (h : HP) (Q : Int → HP → Prop) : Prop := brc (w32 32 ≤ w32 (h b 1)) (Q 0 h) (p5_draw b (h 2 0) h fun r1 h2 => p5_addPart b r1 (-1) h2 fun r3 h4 => brc (w32 r3 = 0) (Q 0 h4) (Q 1 h4))
def p5_partToTake_L7 (b : Nat) (x1 : Int) (h : HP) (Q : Int → Prop) : Nat → Int → Int → Int → Prop
  | 0, _, _, _ => False
  | n + 1, x2, x3, x4 => brc (w32 (h b 1) ≤ w32 x4) (Q x2) (p5_mayTake b x1 x4 h fun r1 => brc (w32 r1 = 0) (p5_partToTake_L7 b x1 h Q n x2 x3 (x4 + 1)) (rd h (b + 1) 32 x4 fun v2 => p5_gainOf b x1 v2 h fun r3 => brc (w32 r3 ≤ w32 x3) (p5_partToTake_L7 b x1 h Q n x2 x3 (x4 + 1)) (rd h (b + 1) 32 x4 fun v4 => p5_gainOf b x1 v4 h fun r5 => p5_partToTake_L7 b x1 h Q n x4 r5 (x4 + 1))))
def p5_partToTake (b : Nat) (x1 : Int) (h : HP) (Q : Int → Prop) : Prop := p5_partToTake_L7 b x1 h Q FUEL (-1) 0 0
def p5_lossOf (b : Nat) (x1 x2 : Int) (h : HP) (Q : Int → Prop) : Prop := rd h (b + 7) 30 ((x1 * 6) + x2) fun v1 => brc (w32 v1 = w32 1) (p4_worthOf x1 x2 h fun r2 => Q r2) (Q 0)
def p5_throwSpare_L2 (b : Nat) (x1 : Int) (Q : HP → Prop) : Nat → HP → Int → Prop
  | 0, _, _ => False
  | n + 1, h, x2 => brc (w32 (h b 1) ≤ w32 x2) (Q h) (rd h (b + 2) 32 x2 fun v1 => brc (w32 v1 = w32 x1) (rd h (b + 1) 32 x2 fun v2 => p5_lossOf b x1 v2 h fun r3 => brc (w32 r3 = 0) (p5_throwOut b x1 x2 h fun r4 h5 => p5_throwSpare_L2 b x1 Q n h5 (x2 + 1)) (p5_throwSpare_L2 b x1 Q n h (x2 + 1))) (p5_throwSpare_L2 b x1 Q n h (x2 + 1)))
def p5_throwSpare (b : Nat) (x1 : Int) (h : HP) (Q : HP → Prop) : Prop := p5_throwSpare_L2 b x1 Q FUEL h 0
def p5_liveWeek_L9 (b : Nat) (E54 : HP → Int → Prop) : Nat → HP → Int → Int → Prop
  | 0, _, _, _ => False
  | n + 1, h, x1, x2 => brc (w32 (h 2 1) ≤ w32 x2) (E54 h x1) (p5_partToTake b x2 h fun r2 => jn (fun (y7 : Int) (h8 : HP) => p5_throwSpare b x2 h8 fun h10 => p5_liveWeek_L9 b E54 n h10 y7 (x2 + 1)) fun K9 => brc (w32 r2 = w32 (-1)) (K9 x1 h) (p5_carryHome b x2 r2 h fun r11 h12 => brc (w32 r11 = 0) (K9 x1 h12) (K9 (x1 + 1) h12)))
def p5_liveWeek (b : Nat) (h : HP) (Q : Int → HP → Prop) : Prop := pf h b 4 0 fun h1 => p5_liveWeek_L9 b (fun (h13 : HP) (y14 : Int) => pf h13 b 2 ((h13 b 2) + 1) fun h15 => Q y14 h15) FUEL h1 0 0
def p5_liveWeeks_L5 (b : Nat) (x1 x2 : Int) (E48 : HP → Int → Int → Prop) (Q : Int → HP → Prop) : Nat → HP → Int → Int → Prop
  | 0, _, _, _ => False
  | n + 1, h, x3, x4 => brc (w32 x1 ≤ w32 x4) (Q x3 h) (jn (fun (y6 : Int) (h7 : HP) => p5_liveWeek b h7 fun r9 h10 => brc (w32 (h10 b 4) = 0) (brc (w32 y6 = 0) (E48 h10 (x3 + r9) x4) (p5_liveWeeks_L5 b x1 x2 E48 Q n h10 (x3 + r9) (x4 + 1))) (p5_liveWeeks_L5 b x1 x2 E48 Q n h10 (x3 + r9) (x4 + 1))) fun K8 => jn (fun (h11 : HP) => K8 0 h11) fun K12 => brc (w32 x2 = 0) (K12 h) (p5_comeByDraw b h fun r13 h14 => brc (w32 r13 = 0) (K12 h14) (K8 1 h14)))
def p5_liveWeeks (b : Nat) (x1 x2 : Int) (h : HP) (Q : Int → HP → Prop) : Prop := p5_liveWeeks_L5 b x1 x2 (fun (h15 : HP) (y16 : Int) (y17 : Int) => pf h15 b 2 ((h15 b 2) + ((x1 - 1) - y17)) fun h18 => Q y16 h18) Q FUEL h 0 0
def p7_week (x1 : Int) (h : HP) (Q : Int → HP → Prop) : Prop := brc (w32 x1 < w32 1) (Q (-1000000002) h) (brc (w32 x1 ≤ w32 99) (p5_liveWeeks 13 x1 0 h fun r1 h2 => Q r1 h2) (Q (-1000000002) h))
def p7_drift (x1 : Int) (h : HP) (Q : Int → HP → Prop) : Prop := brc (w32 x1 < w32 1) (Q (-1000000002) h) (brc (w32 x1 ≤ w32 99) (brc (w32 (h 2 0) = 0) (Q (-1000000003) h) (p5_liveWeeks 13 x1 1 h fun r1 h2 => Q r1 h2)) (Q (-1000000002) h))
def p7_begin  (h : HP) (Q : Int → HP → Prop) : Prop := p5_layOut 13 h fun h1 => Q (h 13 2) h1
def p7_gain (x1 x2 : Int) (h : HP) (Q : Int → Prop) : Prop := p4_isHouse x1 h fun r1 => brc (w32 r1 = 0) (Q (-1000000001)) (p5_isPart 13 x2 h fun r2 => brc (w32 r2 = 0) (Q (-1000000001)) (rd h 14 32 x2 fun v3 => p5_gainOf 13 x1 v3 h fun r4 => Q r4))
def p5_copyFrom (b q : Nat) (h : HP) (Q : HP → Prop) : Prop := pf h b 1 (h q 1) fun h1 => pf h1 b 2 (h1 q 2) fun h2 => pf h2 b 3 (h2 q 3) fun h3 => cpw h3 (q + 1) (b + 1) 32 fun h4 => cpw h4 (q + 2) (b + 2) 32 fun h5 => cpw h5 (q + 3) (b + 3) 32 fun h6 => cpw h6 (q + 4) (b + 4) 32 fun h7 => cpw h7 (q + 5) (b + 5) 640 fun h8 => cpw h8 (q + 6) (b + 6) 5 fun h9 => cpw h9 (q + 7) (b + 7) 30 fun h10 => Q h10
def p7_tryWithout_L23 (Q : HP → Prop) : Nat → HP → Int → Prop
  | 0, _, _ => False
  | n + 1, h, x2 => brc (w32 (h 2 1) ≤ w32 x2) (Q h) (p5_wealthOf 21 x2 h fun r4 => wr h 68 5 x2 r4 fun h5 => p7_tryWithout_L23 Q n h5 (x2 + 1))
def p7_tryWithout (x1 : Int) (h : HP) (Q : HP → Prop) : Prop := p5_copyFrom 21 13 h fun h1 => p5_liveWeeks 21 x1 0 h1 fun r2 h3 => p7_tryWithout_L23 Q FUEL h3 0
def p7_down_L101 (x3 : Int) (h : HP) (Q : Int → HP → Prop) : Nat → Int → Int → Prop
  | 0, _, _ => False
  | n + 1, x4, x5 => brc (w32 (h 2 1) ≤ w32 x5) (Q x4 h) (jn (p5_wealthOf 21 x5 h fun r11 => rd h 68 5 x5 fun v12 => p7_down_L101 x3 h Q n (x4 + (r11 - v12)) (x5 + 1)) fun K10 => brc (w32 x3 = w32 (-1)) (K10) (brc (w32 x3 = w32 x5) (K10) (p7_down_L101 x3 h Q n x4 (x5 + 1))))
def p7_down (x1 x2 x3 : Int) (h : HP) (Q : Int → HP → Prop) : Prop := p4_isSort x1 h fun r1 => brc (w32 r1 = 0) (Q (-1000000001) h) (jn (brc (w32 x2 < w32 1) (Q (-1000000002) h) (brc (w32 x2 ≤ w32 20) (brc (w32 (h 13 1) < w32 32) (p7_tryWithout x2 h fun h4 => p5_copyFrom 21 13 h4 fun h5 => p5_addPart 21 x1 (-1) h5 fun r6 h7 => p5_liveWeeks 21 x2 0 h7 fun r8 h9 => p7_down_L101 x3 h9 Q FUEL 0 0) (Q (-1000000004) h)) (Q (-1000000002) h))) fun K3 => brc (w32 x3 = w32 (-1)) (K3) (p4_isHouse x3 h fun r13 => brc (w32 r13 = 0) (Q (-1000000001) h) (K3)))
def p1_enqueue (x1 x2 : Int) (h : HP) (Q : HP → Prop) : Prop := brc (w32 32 ≤ w32 (h 51 3)) (Q h) (wr h 52 32 x1 x2 fun h1 => wr h1 53 32 (h1 51 3) x1 fun h2 => pf h2 51 3 ((h2 51 3) + 1) fun h3 => Q h3)
def p1_queueLying_L7 (Q : HP → Prop) : Nat → HP → Int → Prop
  | 0, _, _ => False
  | n + 1, h, x1 => brc (w32 (h 13 1) ≤ w32 x1) (Q h) (wr h 52 32 x1 (-1) fun h2 => p5_lies 13 x1 h2 fun r3 => brc (w32 r3 = 0) (p1_queueLying_L7 Q n h2 (x1 + 1)) (p1_enqueue x1 0 h2 fun h4 => p1_queueLying_L7 Q n h4 (x1 + 1)))
def p1_queueLying  (h : HP) (Q : HP → Prop) : Prop := pf h 51 3 0 fun h1 => p1_queueLying_L7 Q FUEL h1 0
def p5_betterBy (b : Nat) (x1 x2 x3 : Int) (h : HP) (Q : Int → Prop) : Prop := rd h (b + 1) 32 x2 fun v1 => rd h (b + 1) 32 x3 fun v2 => brc (w32 v1 = w32 v2) (Q 0) (rd h (b + 1) 32 x3 fun v3 => p5_gainOf b x1 v3 h fun r4 => rd h (b + 1) 32 x2 fun v5 => p5_lossOf b x1 v5 h fun r6 => Q (r4 - r6))
def p1_swapAgainst_L36 (x1 x2 x3 : Int) (Q : HP → Prop) : Nat → HP → Int → Prop
  | 0, _, _ => False
  | n + 1, h, x4 => brc (w32 (h 13 1) ≤ w32 x4) (Q h) (rd h 15 32 x4 fun v7 => jn (fun (y10 : Int) => brc (w32 y10 = 0) (p1_swapAgainst_L36 x1 x2 x3 Q n h (x4 + 1)) (p5_betterBy 13 v7 x4 x1 h fun r12 => brc (w32 r12 ≤ 0) (p1_swapAgainst_L36 x1 x2 x3 Q n h (x4 + 1)) (rd h 52 32 x1 fun v13 => p1_enqueue x4 (v13 + 1) h fun h14 => p1_swapAgainst_L36 x1 x2 x3 Q n h14 (x4 + 1)))) fun K11 => jn (K11 0) fun K15 => brc (w32 v7 = w32 (-1)) (K15) (brc (w32 v7 = w32 x2) (K15) (brc (w32 v7 = w32 x3) (K15) (rd h 52 32 x4 fun v16 => brc (w32 v16 = w32 (-1)) (K11 1) (K15)))))
def p1_swapAgainst (x1 x2 : Int) (h : HP) (Q : HP → Prop) : Prop := p5_lies 13 x1 h fun r1 => jn (fun (y5 : Int) => p1_swapAgainst_L36 x1 x2 y5 Q FUEL h 0) fun K6 => brc (w32 r1 = 0) (rd h 15 32 x1 fun v17 => K6 v17) (rd h 16 32 x1 fun v18 => K6 v18)
def p1_fewestFor_L6 (x1 x2 : Int) (E56 : HP → Int → Prop) (Q : Int → HP → Prop) : Nat → HP → Int → Prop
  | 0, _, _ => False
  | n + 1, h, x3 => brc (w32 (h 51 3) ≤ w32 x3) (Q (-1) h) (brc (w32 32 ≤ w32 x3) (Q (-1) h) (rd h 53 32 x3 fun v2 => rd h 14 32 v2 fun v3 => jn (p1_swapAgainst v2 x1 h fun h6 => p1_fewestFor_L6 x1 x2 E56 Q n h6 (x3 + 1)) fun K5 => brc (w32 v3 = w32 x2) (rd h 16 32 v2 fun v7 => brc (w32 v7 = w32 x1) (K5) (E56 h v2)) (K5)))
def p1_fewestFor (x1 x2 : Int) (h : HP) (Q : Int → HP → Prop) : Prop := p1_queueLying  h fun h1 => p1_fewestFor_L6 x1 x2 (fun (h8 : HP) (y9 : Int) => rd h8 52 32 y9 fun v10 => Q v10 h8) Q FUEL h1 0
def p7_chain (x1 x2 : Int) (h : HP) (Q : Int → HP → Prop) : Prop := p4_isHouse x1 h fun r1 => brc (w32 r1 = 0) (Q (-1000000001) h) (p4_isSort x2 h fun r2 => brc (w32 r2 = 0) (Q (-1000000001) h) (p1_fewestFor x1 x2 h fun r3 h4 => Q r3 h4))
def p3_listChoices_L7 (x1 : Int) (E85 : HP → Int → Prop) : Nat → HP → Int → Int → Int → Prop
  | 0, _, _, _, _ => False
  | n + 1, h, x2, x3, x4 => brc (w32 (h 13 1) ≤ w32 x4) (E85 h x2) (rd h 14 32 x4 fun v1 => rd h 15 32 x4 fun v2 => brc (w32 v2 = w32 x1) (brc (w32 (ia x3 (sl 1 v1)) = 0) (brc (w32 4 ≤ w32 x2) (p3_listChoices_L7 x1 E85 n h x2 x3 (x4 + 1)) (wr h 59 20 ((x1 * 4) + x2) x4 fun h3 => p3_listChoices_L7 x1 E85 n h3 (x2 + 1) (io x3 (sl 1 v1)) (x4 + 1))) (p3_listChoices_L7 x1 E85 n h x2 x3 (x4 + 1))) (p3_listChoices_L7 x1 E85 n h x2 x3 (x4 + 1)))
def p3_listChoices (x1 : Int) (h : HP) (Q : HP → Prop) : Prop := p3_listChoices_L7 x1 (fun (h4 : HP) (y5 : Int) => wr h4 60 5 x1 y5 fun h6 => Q h6) FUEL h 0 0 0
def p3_mostBetter_L19 (x1 x2 x4 : Int) (h : HP) (E79 : Int → Prop) : Nat → Int → Int → Prop
  | 0, _, _ => False
  | n + 1, x3, x5 => rd h 60 5 x2 fun v2 => brc (w32 v2 ≤ w32 x5) (E79 x3) (rd h 59 20 ((x1 * 4) + x4) fun v3 => rd h 59 20 ((x2 * 4) + x5) fun v4 => p5_betterBy 13 x1 v3 v4 h fun r5 => p3_mostBetter_L19 x1 x2 x4 h E79 n (mx x3 r5) (x5 + 1))
def p3_mostBetter_L5 (x1 x2 : Int) (h : HP) (Q : Int → Prop) : Nat → Int → Int → Prop
  | 0, _, _ => False
  | n + 1, x3, x4 => rd h 60 5 x1 fun v1 => brc (w32 v1 ≤ w32 x4) (Q x3) (p3_mostBetter_L19 x1 x2 x4 h (fun (y6 : Int) => p3_mostBetter_L5 x1 x2 h Q n y6 (x4 + 1)) FUEL x3 0)
def p3_mostBetter (x1 x2 : Int) (h : HP) (Q : Int → Prop) : Prop := p3_mostBetter_L5 x1 x2 h Q FUEL 0 0
def p3_hopeLostBy_L4 (x1 : Int) (h : HP) (Q : Int → Prop) : Nat → Int → Int → Prop
  | 0, _, _ => False
  | n + 1, x2, x3 => brc (w32 x1 < w32 x3) (Q x2) (rd h 55 5 x3 fun v1 => jn (fun (y4 : Int) => brc (w32 y4 = 0) (p3_hopeLostBy_L4 x1 h Q n x2 (x3 + 1)) (rd h 56 5 x3 fun v6 => rd h 56 5 v1 fun v7 => p5_betterBy 13 x3 v6 v7 h fun r8 => brc (0 < w32 r8) (rd h 61 25 ((x3 * 5) + v1) fun v9 => p3_hopeLostBy_L4 x1 h Q n (x2 + (v9 - r8)) (x3 + 1)) (Q (-1)))) fun K5 => jn (K5 0) fun K10 => brc (w32 v1 = w32 x3) (K10) (brc (w32 x1 < w32 v1) (K10) (jn (K5 1) fun K11 => brc (w32 x3 = w32 x1) (K11) (brc (w32 v1 = w32 x1) (K11) (K10)))))
def p3_hopeLostBy (x1 : Int) (h : HP) (Q : Int → Prop) : Prop := p3_hopeLostBy_L4 x1 h Q FUEL 0 0
def p3_remember (x1 : Int) (h : HP) (Q : HP → Prop) : Prop := pf h 54 2 x1 fun h1 => cpw h1 55 57 5 fun h2 => cpw h2 56 58 5 fun h3 => Q h3
def p3_chooseThrown_L51 (R : Int → Int → HP → (HP → Prop) → Prop) (x1 x2 : Int) (Q : HP → Prop) : Nat → HP → Int → Prop
  | 0, _, _ => False
  | n + 1, h, x3 => rd h 60 5 x1 fun v2 => brc (w32 v2 ≤ w32 x3) (Q h) (rd h 59 20 ((x1 * 4) + x3) fun v3 => wr h 56 5 x1 v3 fun h4 => p3_hopeLostBy x1 h4 fun r5 => brc (w32 r5 = w32 (-1)) (p3_chooseThrown_L51 R x1 x2 Q n h4 (x3 + 1)) (R (x1 + 1) (x2 - r5) h4 fun h6 => p3_chooseThrown_L51 R x1 x2 Q n h6 (x3 + 1)))
def p3_chooseThrown_B (R : Int → Int → HP → (HP → Prop) → Prop) (x1 x2 : Int) (h : HP) (Q : HP → Prop) : Prop := brc (w32 (h 54 2) < w32 x2) (brc (w32 x1 < w32 (h 54 1)) (rd h 55 5 x1 fun v1 => brc (w32 v1 = w32 x1) (wr h 56 5 x1 (-1) fun h7 => R (x1 + 1) x2 h7 fun h8 => Q h8) (p3_chooseThrown_L51 R x1 x2 Q FUEL h 0)) (p3_remember x2 h fun h9 => Q h9)) (Q h)
def p3_chooseThrown : Nat → Int → Int → HP → (HP → Prop) → Prop
  | 0, _, _, _, _ => False
  | n + 1, x1, x2, h, Q => p3_chooseThrown_B (p3_chooseThrown n) x1 x2 h Q
def p3_chooseGiver_L46 (R : Int → Int → Int → HP → (HP → Prop) → Prop) (x1 x2 x3 : Int) (Q : HP → Prop) : Nat → HP → Int → Prop
  | 0, _, _ => False
  | n + 1, h, x4 => brc (w32 (h 54 1) ≤ w32 x4) (Q h) (rd h 61 25 ((x1 * 5) + x4) fun v6 => brc (w32 x4 = w32 x1) (p3_chooseGiver_L46 R x1 x2 x3 Q n h (x4 + 1)) (brc (w32 (ia (sr x2 x4) 1) = 0) (brc (w32 v6 ≤ 0) (p3_chooseGiver_L46 R x1 x2 x3 Q n h (x4 + 1)) (wr h 55 5 x1 x4 fun h7 => R (x1 + 1) (io x2 (sl 1 x4)) (x3 + v6) h7 fun h8 => p3_chooseGiver_L46 R x1 x2 x3 Q n h8 (x4 + 1))) (p3_chooseGiver_L46 R x1 x2 x3 Q n h (x4 + 1))))
def p3_chooseGiver_B (R : Int → Int → Int → HP → (HP → Prop) → Prop) (x1 x2 x3 : Int) (h : HP) (Q : HP → Prop) : Prop := brc (w32 x1 < w32 (h 54 1)) (jn (fun (h4 : HP) => p3_chooseGiver_L46 R x1 x2 x3 Q FUEL h4 0) fun K5 => brc (w32 (ia (sr x2 x1) 1) = 0) (wr h 55 5 x1 x1 fun h9 => R (x1 + 1) (io x2 (sl 1 x1)) x3 h9 fun h10 => K5 h10) (K5 h)) (p3_chooseThrown 8 0 x3 h fun h11 => Q h11)
def p3_chooseGiver : Nat → Int → Int → Int → HP → (HP → Prop) → Prop
  | 0, _, _, _, _, _ => False
  | n + 1, x1, x2, x3, h, Q => p3_chooseGiver_B (p3_chooseGiver n) x1 x2 x3 h Q
def p3_findBest_L21 (E54 : HP → Prop) : Nat → HP → Int → Prop
  | 0, _, _ => False
  | n + 1, h, x1 => brc (w32 (h 54 1) ≤ w32 x1) (E54 h) (wr h 57 5 x1 x1 fun h3 => wr h3 58 5 x1 (-1) fun h4 => p3_listChoices x1 h4 fun h5 => p3_findBest_L21 E54 n h5 (x1 + 1))
def p3_findBest_L66 (x1 : Int) (E96 : HP → Prop) : Nat → HP → Int → Prop
  | 0, _, _ => False
  | n + 1, h, x2 => brc (w32 (h 54 1) ≤ w32 x2) (E96 h) (p3_mostBetter x1 x2 h fun r7 => wr h 61 25 ((x1 * 5) + x2) r7 fun h8 => p3_findBest_L66 x1 E96 n h8 (x2 + 1))
def p3_findBest_L56 (E102 : HP → Prop) : Nat → HP → Int → Prop
  | 0, _, _ => False
  | n + 1, h, x1 => brc (w32 (h 54 1) ≤ w32 x1) (E102 h) (p3_findBest_L66 x1 (fun (h9 : HP) => p3_findBest_L56 E102 n h9 (x1 + 1)) FUEL h 0)
def p3_findBest  (h : HP) (Q : HP → Prop) : Prop := pf h 54 1 (h 2 1) fun h1 => pf h1 54 2 0 fun h2 => p3_findBest_L21 (fun (h6 : HP) => p3_findBest_L56 (fun (h10 : HP) => p3_chooseGiver 8 0 0 0 h10 fun h11 => Q h11) FUEL h6 0) FUEL h2 0
def p3_partTakenBy (x1 : Int) (h : HP) (Q : Int → Prop) : Prop := rd h 57 5 x1 fun v1 => rd h 58 5 v1 fun v2 => Q v2
def p7_rings (x1 x2 : Int) (h : HP) (Q : Int → HP → Prop) : Prop := jn (brc (w32 x2 < 0) (Q (-1000000002) h) (brc (w32 x2 ≤ w32 1) (p3_findBest  h fun h3 => brc (w32 x1 = w32 (-1)) (Q (h3 54 2) h3) (brc (w32 x2 = 0) (rd h3 58 5 x1 fun v5 => Q v5 h3) (p3_partTakenBy x1 h3 fun r4 => Q r4 h3))) (Q (-1000000002) h))) fun K2 => brc (w32 x1 = w32 (-1)) (K2) (p4_isHouse x1 h fun r6 => brc (w32 r6 = 0) (Q (-1000000001) h) (K2))
def p4_stillMissing (x1 : Int) (h : HP) (Q : Int → Prop) : Prop := brc (w32 (h 2 0) ≤ 0) (Q x1) ((w64 (w32 (h 2 0)) ≠ 0 ∧ Q (ld (x1 * (w32 ((h 2 0) - 1))) (w32 (h 2 0)))))
def p7_odds_L34 (x2 : Int) (h : HP) (Q : Int → Prop) : Nat → Int → Int → Prop
  | 0, _, _ => False
  | n + 1, x3, x5 => brc (w32 x2 ≤ w32 x5) (Q (1000000000 - x3)) (p4_stillMissing x3 h fun r2 => p7_odds_L34 x2 h Q n r2 (x5 + 1))
def p7_odds (x1 x2 : Int) (h : HP) (Q : Int → Prop) : Prop := p4_isSort x1 h fun r1 => brc (w32 r1 = 0) (Q (-1000000001)) (brc (w32 x2 < 0) (Q (-1000000002)) (brc (w32 x2 ≤ w32 60) (p7_odds_L34 x2 h Q FUEL 1000000000 0) (Q (-1000000002))))
def p5_greatestGain (b : Nat) (x1 : Int) (h : HP) (Q : Int → Prop) : Prop := p5_partToTake b x1 h fun r1 => brc (w32 r1 = w32 (-1)) (Q 0) (rd h (b + 1) 32 r1 fun v2 => p5_gainOf b x1 v2 h fun r3 => Q r3)
def p7_waits_L72 (x3 x4 : Int) (h : HP) (Q : Int → Prop) : Nat → Int → Int → Int → Int → Prop
  | 0, _, _, _, _ => False
  | n + 1, x6, x8, x10, x11 => brc (w32 60 < w32 x11) (Q x10) (jn (fun (y7 : Int) (y8 : Int) => p4_stillMissing x8 h fun r10 => p7_waits_L72 x3 x4 h Q n y7 r10 y8 (x11 + 1)) fun K9 => brc (w32 (lc ((ld (x4 * (1000000000 - x8)) 1000000000) - ((w32 x11) * (w32 x3))) x6) ≤ 0) (K9 x6 x10) (K9 ((ld (x4 * (1000000000 - x8)) 1000000000) - ((w32 x11) * (w32 x3))) x11))
def p7_waits (x1 x2 x3 : Int) (h : HP) (Q : Int → Prop) : Prop := p4_isHouse x1 h fun r1 => brc (w32 r1 = 0) (Q (-1000000001)) (p4_isSort x2 h fun r2 => brc (w32 r2 = 0) (Q (-1000000001)) (brc (w32 x3 < 0) (Q (-1000000002)) (brc (w32 x3 ≤ w32 99) (p5_gainOf 13 x1 x2 h fun r3 => p5_greatestGain 13 x1 h fun r4 => p7_waits_L72 x3 (w32 r3) h Q FUEL (w32 r4) 1000000000 (-1) 0) (Q (-1000000002)))))
def p6_setUp_L17 (x3 : Int) (E74 : HP → Prop) : Nat → HP → Int → Prop
  | 0, _, _ => False
  | n + 1, h, x4 => brc (w32 2 ≤ w32 x4) (E74 h) (rd h 63 2 x4 fun v3 => rd h 19 5 v3 fun v4 => wr h 64 2 x4 (4 - v4) fun h5 => rd h5 63 2 x4 fun v6 => p5_sortsHad 13 v6 h5 fun r7 => wr h5 65 2 x4 r7 fun h8 => p6_setUp_L17 x3 E74 n h8 (x4 + 1))
def p6_setUp_L88 (x3 : Int) (Q : HP → Prop) : Nat → HP → Int → Int → Prop
  | 0, _, _, _ => False
  | n + 1, h, x4, x5 => brc (w32 (h 13 1) ≤ w32 x5) (Q h) (brc (w32 8 ≤ w32 x4) (Q h) (p5_lies 13 x5 h fun r11 => brc (w32 r11 = 0) (p6_setUp_L88 x3 Q n h x4 (x5 + 1)) (rd h 16 32 x5 fun v12 => brc (w32 v12 = w32 x3) (rd h 14 32 x5 fun v13 => rd h 66 6 v13 fun v14 => jn (fun (y17 : Int) => wr h 67 6 v13 y17 fun h19 => rd h19 66 6 v13 fun v20 => wr h19 66 6 v13 (v20 + 1) fun h21 => p6_setUp_L88 x3 Q n h21 (x4 + 1) (x5 + 1)) fun K18 => brc (w32 v14 = 0) (K18 x5) (rd h 67 6 v13 fun v22 => K18 v22)) (p6_setUp_L88 x3 Q n h x4 (x5 + 1)))))
def p6_setUp (x1 x2 x3 : Int) (h : HP) (Q : HP → Prop) : Prop := wr h 63 2 0 x1 fun h1 => wr h1 63 2 1 x2 fun h2 => p6_setUp_L17 x3 (fun (h9 : HP) => pJ_fill 66 6 0 h9 fun h10 => p6_setUp_L88 x3 Q FUEL h10 0 0) FUEL h2 0
def p6_valueOfTaking (R : Int → Int → HP → (Int → HP → Prop) → Prop) (x1 x2 x3 : Int) (h : HP) (Q : Int → HP → Prop) : Prop := rd h 65 2 x3 fun v1 => jn (fun (y5 : Int) => wr h 65 2 x3 (io v1 (sl 1 x1)) fun h7 => rd h7 64 2 x3 fun v8 => wr h7 64 2 x3 (v8 - 1) fun h9 => rd h9 66 6 x1 fun v10 => wr h9 66 6 x1 (v10 - 1) fun h11 => R (x2 - 1) (1 - x3) h11 fun r12 h13 => rd h13 66 6 x1 fun v14 => wr h13 66 6 x1 (v14 + 1) fun h15 => rd h15 64 2 x3 fun v16 => wr h15 64 2 x3 (v16 + 1) fun h17 => wr h17 65 2 x3 v1 fun h18 => Q (y5 - r12) h18) fun K6 => brc (w32 (ia (sr v1 x1) 1) = 0) (rd h 63 2 x3 fun v19 => p4_worthOf v19 x1 h fun r20 => K6 r20) (K6 0)
def p6_bestOf_L21 (R : Int → Int → HP → (Int → HP → Prop) → Prop) (x1 x2 : Int) (Q : Int → HP → Prop) : Nat → HP → Int → Int → Prop
  | 0, _, _, _ => False
  | n + 1, h, x3, x4 => brc (w32 6 ≤ w32 x4) (Q x3 h) (rd h 66 6 x4 fun v3 => brc (w32 v3 ≤ 0) (p6_bestOf_L21 R x1 x2 Q n h x3 (x4 + 1)) (rd h 64 2 x2 fun v4 => brc (w32 v4 ≤ 0) (p6_bestOf_L21 R x1 x2 Q n h x3 (x4 + 1)) (p6_valueOfTaking R x4 x1 x2 h fun r5 h6 => p6_bestOf_L21 R x1 x2 Q n h6 (mx x3 r5) (x4 + 1))))
def p6_bestOf_B (R : Int → Int → HP → (Int → HP → Prop) → Prop) (x1 x2 : Int) (h : HP) (Q : Int → HP → Prop) : Prop := brc (0 < w32 x1) (R (x1 - 1) (1 - x2) h fun r1 h2 => p6_bestOf_L21 R x1 x2 Q FUEL h2 (-r1) 0) (Q 0 h)
def p6_bestOf : Nat → Int → Int → HP → (Int → HP → Prop) → Prop
  | 0, _, _, _, _ => False
  | n + 1, x1, x2, h, Q => p6_bestOf_B (p6_bestOf n) x1 x2 h Q
def p6_playOut_L52 (x1 x2 : Int) (Q : Int → HP → Prop) : Nat → HP → Int → Int → Prop
  | 0, _, _, _ => False
  | n + 1, h, x3, x4 => brc (w32 6 ≤ w32 x4) (Q (x2 + x3) h) (rd h 66 6 x4 fun v8 => brc (w32 v8 ≤ 0) (p6_playOut_L52 x1 x2 Q n h x3 (x4 + 1)) (rd h 64 2 0 fun v9 => brc (w32 v9 ≤ 0) (p6_playOut_L52 x1 x2 Q n h x3 (x4 + 1)) (p6_valueOfTaking (p6_bestOf 8) x4 x1 0 h fun r10 h11 => jn (fun (y14 : Int) => jn (rd h11 67 6 x4 fun v17 => pf h11 62 6 v17 fun h18 => p6_playOut_L52 x1 x2 Q n h18 r10 (x4 + 1)) fun K16 => brc (w32 x3 < w32 r10) (K16) (brc (w32 r10 = w32 x3) (brc (w32 y14 = 0) (p6_playOut_L52 x1 x2 Q n h11 x3 (x4 + 1)) (K16)) (p6_playOut_L52 x1 x2 Q n h11 x3 (x4 + 1)))) fun K15 => jn (K15 0) fun K19 => brc (w32 (h11 62 6) = w32 (-1)) (K19) (rd h11 67 6 x4 fun v20 => brc (w32 (h11 62 6) ≤ w32 v20) (K19) (K15 1)))))
def p6_playOut (x1 : Int) (h : HP) (Q : Int → HP → Prop) : Prop := rd h 63 2 0 fun v1 => p5_wealthOf 13 v1 h fun r2 => rd h 63 2 1 fun v3 => p5_wealthOf 13 v3 h fun r4 => pf h 62 6 (-1) fun h5 => brc (0 < w32 x1) (p6_bestOf 8 (x1 - 1) 1 h5 fun r6 h7 => p6_playOut_L52 x1 (r2 - r4) Q FUEL h7 (-r6) 0) (Q (r2 - r4) h5)
def p7_turnsAt (x1 x2 x3 x4 x5 : Int) (h : HP) (Q : Int → HP → Prop) : Prop := p4_isHouse x1 h fun r1 => brc (w32 r1 = 0) (Q (-1000000001) h) (p4_isHouse x2 h fun r2 => brc (w32 r2 = 0) (Q (-1000000001) h) (jn (brc (w32 x1 = w32 x2) (Q (-1000000001) h) (brc (w32 x1 = w32 x3) (Q (-1000000001) h) (brc (w32 x2 = w32 x3) (Q (-1000000001) h) (brc (w32 x4 < 0) (Q (-1000000002) h) (brc (w32 4 < w32 x4) (Q (-1000000002) h) (brc (w32 x5 < 0) (Q (-1000000002) h) (brc (w32 x5 ≤ w32 1) (p6_setUp x1 x2 x3 h fun h5 => p6_playOut x4 h5 fun r6 h7 => brc (w32 x5 = 0) (Q r6 h7) (Q (h7 62 6) h7)) (Q (-1000000002) h)))))))) fun K4 => brc (w32 x3 = w32 (-1)) (K4) (p4_isHouse x3 h fun r8 => brc (w32 r8 = 0) (Q (-1000000001) h) (K4))))
def p0_enter (x1 x2 x3 : Int) (h : HP) (Q : Int → HP → Prop) : Prop := brc (w32 (h 47 0) < w32 40) (wr h 48 40 (h 47 0) x1 fun h1 => wr h1 49 40 (h1 47 0) x2 fun h2 => wr h2 50 40 (h2 47 0) (bb x3) fun h3 => pf h3 47 0 ((h3 47 0) + 1) fun h4 => Q 1 h4) (Q 0 h)
def p7_write (x1 x2 x3 : Int) (h : HP) (Q : Int → HP → Prop) : Prop := p4_isHouse x1 h fun r1 => brc (w32 r1 = 0) (Q (-1000000001) h) (p5_isPart 13 x2 h fun r2 => brc (w32 r2 = 0) (Q (-1000000001) h) (p0_enter x1 x2 x3 h fun r3 h4 => brc (w32 r3 = 0) (Q (-1000000004) h4) (Q (h4 47 0) h4)))
def p7_tear  (h : HP) (Q : Int → HP → Prop) : Prop := pf h 47 0 0 fun h1 => Q (h 47 0) h1
def p0_firstWrong_L2 (Q : Int → HP → Prop) : Nat → HP → Int → Prop
  | 0, _, _ => False
  | n + 1, h, x2 => brc (w32 (h 47 0) ≤ w32 x2) (Q (-1) h) (rd h 49 40 x2 fun v1 => p5_isPart 21 v1 h fun r2 => brc (w32 r2 = 0) (Q x2 h) (rd h 50 40 x2 fun v3 => jn (fun (y14 : Int) (h15 : HP) => brc (w32 y14 = 0) (Q x2 h15) (p0_firstWrong_L2 Q n h15 (x2 + 1))) fun K16 => brc (w32 v3 = 0) (rd h 48 40 x2 fun v17 => rd h 49 40 x2 fun v18 => p5_throwOut 21 v17 v18 h fun r19 h20 => K16 r19 h20) (rd h 48 40 x2 fun v21 => rd h 49 40 x2 fun v22 => p5_carryHome 21 v21 v22 h fun r23 h24 => K16 r23 h24)))
def p0_firstWrong  (h : HP) (Q : Int → HP → Prop) : Prop := p0_firstWrong_L2 Q FUEL h 0
def p7_judge  (h : HP) (Q : Int → HP → Prop) : Prop := p5_copyFrom 21 13 h fun h1 => p0_firstWrong  h1 fun r2 h3 => Q r2 h3
def p7_seed (x1 : Int) (h : HP) (Q : Int → HP → Prop) : Prop := brc (0 ≤ w32 x1) (pf h 13 3 x1 fun h1 => Q (h 13 3) h1) (Q (-1000000002) h)
def p7_keep (x1 : Int) (h : HP) (Q : Int → HP → Prop) : Prop := brc (w32 x1 < 0) (Q (-1000000001) h) (brc (w32 x1 < w32 2) (((w32 x1 = 0 ∨ w32 x1 = 1) ∧ (w32 x1 = 0 → p5_copyFrom 30 13 h fun h1 => wr h1 46 2 x1 (bb 1) fun h2 => Q 1 h2) ∧ (w32 x1 = 1 → p5_copyFrom 38 13 h fun h3 => wr h3 46 2 x1 (bb 1) fun h4 => Q 1 h4))) (Q (-1000000001) h))
def p7_goBack (x1 : Int) (h : HP) (Q : Int → HP → Prop) : Prop := brc (w32 x1 < 0) (Q (-1000000001) h) (brc (w32 x1 < w32 2) (rd h 46 2 x1 fun v1 => brc (w32 v1 = 0) (Q (-1000000003) h) (((w32 x1 = 0 ∨ w32 x1 = 1) ∧ (w32 x1 = 0 → p5_copyFrom 13 30 h fun h2 => Q 1 h2) ∧ (w32 x1 = 1 → p5_copyFrom 13 38 h fun h3 => Q 1 h3)))) (Q (-1000000001) h))
