/-! ===== PURE: what holds behind a call may be weakened ===== -/
theorem brM {c a b a2 b2 : Prop} (h1 : a → a2) (h2 : b → b2) : brc c a b → brc c a2 b2 := fun H => ⟨fun q => h1 (H.1 q), fun q => h2 (H.2 q)⟩
theorem rdM {h : HP} {c n : Nat} {i : Int} {K K2 : Int → Prop} (hk : ∀ v, K v → K2 v) : rd h c n i K → rd h c n i K2 := fun H => ⟨H.1, hk _ H.2⟩
theorem rsM {c : Nat} {i : Int} {K K2 : Int → Prop} (hk : ∀ v, K v → K2 v) : rdS c i K → rdS c i K2 := fun H => ⟨H.1, hk _ H.2⟩
theorem wrM {h : HP} {c n : Nat} {i v : Int} {K K2 : HP → Prop} (hk : ∀ g, K g → K2 g) : wr h c n i v K → wr h c n i v K2 := fun H => ⟨H.1, hk _ H.2⟩
theorem pfM {h : HP} {c n : Nat} {v : Int} {K K2 : HP → Prop} (hk : ∀ g, K g → K2 g) : pf h c n v K → pf h c n v K2 := fun H => hk _ H
theorem cpM {h : HP} {c d n : Nat} {K K2 : HP → Prop} (hk : ∀ g, K g → K2 g) : cpw h c d n K → cpw h c d n K2 := fun H => hk _ H
theorem jnM {α : Sort _} {K K2 : α} {B B2 : α → Prop} (hb : B K → B2 K2) : jn K B → jn K2 B2 := fun H => hb H
theorem anM {a b a2 b2 : Prop} (h1 : a → a2) (h2 : b → b2) : a ∧ b → a2 ∧ b2 := fun H => ⟨h1 H.1, h2 H.2⟩
theorem imM {c a a2 : Prop} (h1 : a → a2) : (c → a) → (c → a2) := fun H q => h1 (H q)
theorem idM {a : Prop} : a → a := fun H => H
theorem m_pJ_fill_L5 {c : Nat} {n : Nat} {x1 : Int} {Q Q2 : HP → Prop} (hQ : ∀ (y0 : HP), Q y0 → Q2 y0) : ∀ (fu : Nat) (a1 : HP) (a2 : Int), pJ_fill_L5 c n x1 Q fu a1 a2 → pJ_fill_L5 c n x1 Q2 fu a1 a2 := by
  intro fu
  induction fu with
  | zero => intro a1 a2 H; exact (show False from H).elim
  | succ fu ih =>
    intro a1 a2
    unfold pJ_fill_L5
    repeat' (first | (with_reducible exact ih _ _) | (with_reducible exact hQ _) | (with_reducible refine brM ?_ ?_) | (with_reducible refine rdM (fun _ => ?_)) | (with_reducible refine wrM (fun _ => ?_)) | (with_reducible refine pfM (fun _ => ?_)) | (with_reducible refine jnM ?_) | (with_reducible exact idM) | (with_reducible refine anM ?_ ?_) | (with_reducible refine imM ?_) | (with_reducible refine cpM (fun _ => ?_)) | (with_reducible refine rsM (fun _ => ?_)))
theorem m_pJ_fill {c : Nat} {n : Nat} {x1 : Int} {h : HP} {Q Q2 : HP → Prop} (hQ : ∀ (y0 : HP), Q y0 → Q2 y0) : pJ_fill c n x1 h Q → pJ_fill c n x1 h Q2 := by
  unfold pJ_fill
  repeat' (first | (with_reducible exact hQ _) | (with_reducible refine m_pJ_fill_L5 (fun _ => ?_) _ _ _) | (with_reducible refine brM ?_ ?_) | (with_reducible refine rdM (fun _ => ?_)) | (with_reducible refine wrM (fun _ => ?_)) | (with_reducible refine pfM (fun _ => ?_)) | (with_reducible refine jnM ?_) | (with_reducible exact idM) | (with_reducible refine anM ?_ ?_) | (with_reducible refine imM ?_) | (with_reducible refine cpM (fun _ => ?_)) | (with_reducible refine rsM (fun _ => ?_)))
theorem m_p7_feed_L34 {x2 : Int} {Q Q2 : Int → HP → Prop} (hQ : ∀ (y0 : Int) (y1 : HP), Q y0 y1 → Q2 y0 y1) : ∀ (fu : Nat) (a1 : HP) (a2 : Int), p7_feed_L34 x2 Q fu a1 a2 → p7_feed_L34 x2 Q2 fu a1 a2 := by
  intro fu
  induction fu with
  | zero => intro a1 a2 H; exact (show False from H).elim
  | succ fu ih =>
    intro a1 a2
    unfold p7_feed_L34
    repeat' (first | (with_reducible exact ih _ _) | (with_reducible exact hQ _ _) | (with_reducible refine brM ?_ ?_) | (with_reducible refine rdM (fun _ => ?_)) | (with_reducible refine wrM (fun _ => ?_)) | (with_reducible refine pfM (fun _ => ?_)) | (with_reducible refine jnM ?_) | (with_reducible exact idM) | (with_reducible refine anM ?_ ?_) | (with_reducible refine imM ?_) | (with_reducible refine cpM (fun _ => ?_)) | (with_reducible refine rsM (fun _ => ?_)))
theorem m_p7_feed {x1 : Int} {x2 : Int} {h : HP} {Q Q2 : Int → HP → Prop} (hQ : ∀ (y0 : Int) (y1 : HP), Q y0 y1 → Q2 y0 y1) : p7_feed x1 x2 h Q → p7_feed x1 x2 h Q2 := by
  unfold p7_feed
  repeat' (first | (with_reducible exact hQ _ _) | (with_reducible refine m_p7_feed_L34 (fun _ _ => ?_) _ _ _) | (with_reducible refine brM ?_ ?_) | (with_reducible refine rdM (fun _ => ?_)) | (with_reducible refine wrM (fun _ => ?_)) | (with_reducible refine pfM (fun _ => ?_)) | (with_reducible refine jnM ?_) | (with_reducible exact idM) | (with_reducible refine anM ?_ ?_) | (with_reducible refine imM ?_) | (with_reducible refine cpM (fun _ => ?_)) | (with_reducible refine rsM (fun _ => ?_)))
theorem m_p4_clear {h : HP} {Q Q2 : HP → Prop} (hQ : ∀ (y0 : HP), Q y0 → Q2 y0) : p4_clear h Q → p4_clear h Q2 := by
  unfold p4_clear
  repeat' (first | (with_reducible exact hQ _) | (with_reducible refine m_pJ_fill (fun _ => ?_)) | (with_reducible refine brM ?_ ?_) | (with_reducible refine rdM (fun _ => ?_)) | (with_reducible refine wrM (fun _ => ?_)) | (with_reducible refine pfM (fun _ => ?_)) | (with_reducible refine jnM ?_) | (with_reducible exact idM) | (with_reducible refine anM ?_ ?_) | (with_reducible refine imM ?_) | (with_reducible refine cpM (fun _ => ?_)) | (with_reducible refine rsM (fun _ => ?_)))
theorem m_p2_skipBlanks_L0 {Q Q2 : HP → Prop} (hQ : ∀ (y0 : HP), Q y0 → Q2 y0) : ∀ (fu : Nat) (a1 : HP), p2_skipBlanks_L0 Q fu a1 → p2_skipBlanks_L0 Q2 fu a1 := by
  intro fu
  induction fu with
  | zero => intro a1 H; exact (show False from H).elim
  | succ fu ih =>
    intro a1
    unfold p2_skipBlanks_L0
    repeat' (first | (with_reducible exact ih _) | (with_reducible exact hQ _) | (with_reducible refine brM ?_ ?_) | (with_reducible refine rdM (fun _ => ?_)) | (with_reducible refine wrM (fun _ => ?_)) | (with_reducible refine pfM (fun _ => ?_)) | (with_reducible refine jnM ?_) | (with_reducible exact idM) | (with_reducible refine anM ?_ ?_) | (with_reducible refine imM ?_) | (with_reducible refine cpM (fun _ => ?_)) | (with_reducible refine rsM (fun _ => ?_)))
theorem m_p2_skipBlanks {h : HP} {Q Q2 : HP → Prop} (hQ : ∀ (y0 : HP), Q y0 → Q2 y0) : p2_skipBlanks h Q → p2_skipBlanks h Q2 := by
  unfold p2_skipBlanks
  repeat' (first | (with_reducible exact hQ _) | (with_reducible refine m_p2_skipBlanks_L0 (fun _ => ?_) _ _) | (with_reducible refine brM ?_ ?_) | (with_reducible refine rdM (fun _ => ?_)) | (with_reducible refine wrM (fun _ => ?_)) | (with_reducible refine pfM (fun _ => ?_)) | (with_reducible refine jnM ?_) | (with_reducible exact idM) | (with_reducible refine anM ?_ ?_) | (with_reducible refine imM ?_) | (with_reducible refine cpM (fun _ => ?_)) | (with_reducible refine rsM (fun _ => ?_)))
theorem m_p2_isWord_L17 {s : Nat} {x2 : Int} {h : HP} {Q Q2 : Int → Prop} (hQ : ∀ (y0 : Int), Q y0 → Q2 y0) : ∀ (fu : Nat) (a1 : Int), p2_isWord_L17 s x2 h Q fu a1 → p2_isWord_L17 s x2 h Q2 fu a1 := by
  intro fu
  induction fu with
  | zero => intro a1 H; exact (show False from H).elim
  | succ fu ih =>
    intro a1
    unfold p2_isWord_L17
    repeat' (first | (with_reducible exact ih _) | (with_reducible exact hQ _) | (with_reducible refine brM ?_ ?_) | (with_reducible refine rdM (fun _ => ?_)) | (with_reducible refine wrM (fun _ => ?_)) | (with_reducible refine pfM (fun _ => ?_)) | (with_reducible refine jnM ?_) | (with_reducible exact idM) | (with_reducible refine anM ?_ ?_) | (with_reducible refine imM ?_) | (with_reducible refine cpM (fun _ => ?_)) | (with_reducible refine rsM (fun _ => ?_)))
theorem m_p2_isWord {s : Nat} {x2 : Int} {h : HP} {Q Q2 : Int → Prop} (hQ : ∀ (y0 : Int), Q y0 → Q2 y0) : p2_isWord s x2 h Q → p2_isWord s x2 h Q2 := by
  unfold p2_isWord
  repeat' (first | (with_reducible exact hQ _) | (with_reducible refine m_p2_isWord_L17 (fun _ => ?_) _ _) | (with_reducible refine brM ?_ ?_) | (with_reducible refine rdM (fun _ => ?_)) | (with_reducible refine wrM (fun _ => ?_)) | (with_reducible refine pfM (fun _ => ?_)) | (with_reducible refine jnM ?_) | (with_reducible exact idM) | (with_reducible refine anM ?_ ?_) | (with_reducible refine imM ?_) | (with_reducible refine cpM (fun _ => ?_)) | (with_reducible refine rsM (fun _ => ?_)))
theorem m_p2_isFigure {x0 : Int} {h : HP} {Q Q2 : Int → Prop} (hQ : ∀ (y0 : Int), Q y0 → Q2 y0) : p2_isFigure x0 h Q → p2_isFigure x0 h Q2 := by
  unfold p2_isFigure
  repeat' (first | (with_reducible exact hQ _) | (with_reducible refine brM ?_ ?_) | (with_reducible refine rdM (fun _ => ?_)) | (with_reducible refine wrM (fun _ => ?_)) | (with_reducible refine pfM (fun _ => ?_)) | (with_reducible refine jnM ?_) | (with_reducible exact idM) | (with_reducible refine anM ?_ ?_) | (with_reducible refine imM ?_) | (with_reducible refine cpM (fun _ => ?_)) | (with_reducible refine rsM (fun _ => ?_)))
theorem m_p2_numberFollows {h : HP} {Q Q2 : Int → HP → Prop} (hQ : ∀ (y0 : Int) (y1 : HP), Q y0 y1 → Q2 y0 y1) : p2_numberFollows h Q → p2_numberFollows h Q2 := by
  unfold p2_numberFollows
  repeat' (first | (with_reducible exact hQ _ _) | (with_reducible refine m_p2_skipBlanks (fun _ => ?_)) | (with_reducible refine m_p2_isFigure (fun _ => ?_)) | (with_reducible refine brM ?_ ?_) | (with_reducible refine rdM (fun _ => ?_)) | (with_reducible refine wrM (fun _ => ?_)) | (with_reducible refine pfM (fun _ => ?_)) | (with_reducible refine jnM ?_) | (with_reducible exact idM) | (with_reducible refine anM ?_ ?_) | (with_reducible refine imM ?_) | (with_reducible refine cpM (fun _ => ?_)) | (with_reducible refine rsM (fun _ => ?_)))
theorem m_p2_fail {x1 : Int} {x2 : Int} {h : HP} {Q Q2 : HP → Prop} (hQ : ∀ (y0 : HP), Q y0 → Q2 y0) : p2_fail x1 x2 h Q → p2_fail x1 x2 h Q2 := by
  unfold p2_fail
  repeat' (first | (with_reducible exact hQ _) | (with_reducible refine brM ?_ ?_) | (with_reducible refine rdM (fun _ => ?_)) | (with_reducible refine wrM (fun _ => ?_)) | (with_reducible refine pfM (fun _ => ?_)) | (with_reducible refine jnM ?_) | (with_reducible exact idM) | (with_reducible refine anM ?_ ?_) | (with_reducible refine imM ?_) | (with_reducible refine cpM (fun _ => ?_)) | (with_reducible refine rsM (fun _ => ?_)))
theorem m_p2_readNumber_L26 {x1 : Int} {x2 : Int} {x3 : Int} {E100 E1002 : HP → Int → Prop} (hE100 : ∀ (y0 : HP) (y1 : Int), E100 y0 y1 → E1002 y0 y1) : ∀ (fu : Nat) (a1 : HP) (a2 : Int), p2_readNumber_L26 x1 x2 x3 E100 fu a1 a2 → p2_readNumber_L26 x1 x2 x3 E1002 fu a1 a2 := by
  intro fu
  induction fu with
  | zero => intro a1 a2 H; exact (show False from H).elim
  | succ fu ih =>
    intro a1 a2
    unfold p2_readNumber_L26
    repeat' (first | (with_reducible exact ih _ _) | (with_reducible exact hE100 _ _) | (with_reducible refine m_p2_isFigure (fun _ => ?_)) | (with_reducible refine brM ?_ ?_) | (with_reducible refine rdM (fun _ => ?_)) | (with_reducible refine wrM (fun _ => ?_)) | (with_reducible refine pfM (fun _ => ?_)) | (with_reducible refine jnM ?_) | (with_reducible exact idM) | (with_reducible refine anM ?_ ?_) | (with_reducible refine imM ?_) | (with_reducible refine cpM (fun _ => ?_)) | (with_reducible refine rsM (fun _ => ?_)))
theorem m_p2_readNumber {x1 : Int} {x2 : Int} {h : HP} {Q Q2 : Int → HP → Prop} (hQ : ∀ (y0 : Int) (y1 : HP), Q y0 y1 → Q2 y0 y1) : p2_readNumber x1 x2 h Q → p2_readNumber x1 x2 h Q2 := by
  unfold p2_readNumber
  repeat' (first | (with_reducible exact hQ _ _) | (with_reducible refine m_p2_numberFollows (fun _ _ => ?_)) | (with_reducible refine m_p2_fail (fun _ => ?_)) | (with_reducible refine m_p2_readNumber_L26 (fun _ _ => ?_) _ _ _) | (with_reducible refine brM ?_ ?_) | (with_reducible refine rdM (fun _ => ?_)) | (with_reducible refine wrM (fun _ => ?_)) | (with_reducible refine pfM (fun _ => ?_)) | (with_reducible refine jnM ?_) | (with_reducible exact idM) | (with_reducible refine anM ?_ ?_) | (with_reducible refine imM ?_) | (with_reducible refine cpM (fun _ => ?_)) | (with_reducible refine rsM (fun _ => ?_)))
theorem m_p2_readEnd {h : HP} {Q Q2 : Int → HP → Prop} (hQ : ∀ (y0 : Int) (y1 : HP), Q y0 y1 → Q2 y0 y1) : p2_readEnd h Q → p2_readEnd h Q2 := by
  unfold p2_readEnd
  repeat' (first | (with_reducible exact hQ _ _) | (with_reducible refine m_p2_skipBlanks (fun _ => ?_)) | (with_reducible refine m_p2_fail (fun _ => ?_)) | (with_reducible refine brM ?_ ?_) | (with_reducible refine rdM (fun _ => ?_)) | (with_reducible refine wrM (fun _ => ?_)) | (with_reducible refine pfM (fun _ => ?_)) | (with_reducible refine jnM ?_) | (with_reducible exact idM) | (with_reducible refine anM ?_ ?_) | (with_reducible refine imM ?_) | (with_reducible refine cpM (fun _ => ?_)) | (with_reducible refine rsM (fun _ => ?_)))
theorem m_p2_readHouse_L28 {x2 : Int} {E158 E1582 : HP → Prop} (hE158 : ∀ (y0 : HP), E158 y0 → E1582 y0) : ∀ (fu : Nat) (a1 : HP) (a2 : Int), p2_readHouse_L28 x2 E158 fu a1 a2 → p2_readHouse_L28 x2 E1582 fu a1 a2 := by
  intro fu
  induction fu with
  | zero => intro a1 a2 H; exact (show False from H).elim
  | succ fu ih =>
    intro a1 a2
    unfold p2_readHouse_L28
    repeat' (first | (with_reducible exact ih _ _) | (with_reducible exact hE158 _) | (with_reducible refine m_p2_numberFollows (fun _ _ => ?_)) | (with_reducible refine m_p2_readNumber (fun _ _ => ?_)) | (with_reducible refine m_p2_fail (fun _ => ?_)) | (with_reducible refine brM ?_ ?_) | (with_reducible refine rdM (fun _ => ?_)) | (with_reducible refine wrM (fun _ => ?_)) | (with_reducible refine pfM (fun _ => ?_)) | (with_reducible refine jnM ?_) | (with_reducible exact idM) | (with_reducible refine anM ?_ ?_) | (with_reducible refine imM ?_) | (with_reducible refine cpM (fun _ => ?_)) | (with_reducible refine rsM (fun _ => ?_)))
theorem m_p2_readHouse {x1 : Int} {h : HP} {Q Q2 : HP → Prop} (hQ : ∀ (y0 : HP), Q y0 → Q2 y0) : p2_readHouse x1 h Q → p2_readHouse x1 h Q2 := by
  unfold p2_readHouse
  repeat' (first | (with_reducible exact hQ _) | (with_reducible refine m_p2_readNumber (fun _ _ => ?_)) | (with_reducible refine m_p2_readHouse_L28 (fun _ => ?_) _ _ _) | (with_reducible refine m_p2_readEnd (fun _ _ => ?_)) | (with_reducible refine m_p2_fail (fun _ => ?_)) | (with_reducible refine brM ?_ ?_) | (with_reducible refine rdM (fun _ => ?_)) | (with_reducible refine wrM (fun _ => ?_)) | (with_reducible refine pfM (fun _ => ?_)) | (with_reducible refine jnM ?_) | (with_reducible exact idM) | (with_reducible refine anM ?_ ?_) | (with_reducible refine imM ?_) | (with_reducible refine cpM (fun _ => ?_)) | (with_reducible refine rsM (fun _ => ?_)))
theorem m_p2_readWorth {x1 : Int} {h : HP} {Q Q2 : HP → Prop} (hQ : ∀ (y0 : HP), Q y0 → Q2 y0) : p2_readWorth x1 h Q → p2_readWorth x1 h Q2 := by
  unfold p2_readWorth
  repeat' (first | (with_reducible exact hQ _) | (with_reducible refine m_p2_readNumber (fun _ _ => ?_)) | (with_reducible refine m_p2_skipBlanks (fun _ => ?_)) | (with_reducible refine m_p2_readEnd (fun _ _ => ?_)) | (with_reducible refine m_p2_fail (fun _ => ?_)) | (with_reducible refine brM ?_ ?_) | (with_reducible refine rdM (fun _ => ?_)) | (with_reducible refine wrM (fun _ => ?_)) | (with_reducible refine pfM (fun _ => ?_)) | (with_reducible refine jnM ?_) | (with_reducible exact idM) | (with_reducible refine anM ?_ ?_) | (with_reducible refine imM ?_) | (with_reducible refine cpM (fun _ => ?_)) | (with_reducible refine rsM (fun _ => ?_)))
theorem m_p2_readSorts {x1 : Int} {h : HP} {Q Q2 : HP → Prop} (hQ : ∀ (y0 : HP), Q y0 → Q2 y0) : p2_readSorts x1 h Q → p2_readSorts x1 h Q2 := by
  unfold p2_readSorts
  repeat' (first | (with_reducible exact hQ _) | (with_reducible refine m_p2_readNumber (fun _ _ => ?_)) | (with_reducible refine m_p2_readEnd (fun _ _ => ?_)) | (with_reducible refine m_p2_fail (fun _ => ?_)) | (with_reducible refine brM ?_ ?_) | (with_reducible refine rdM (fun _ => ?_)) | (with_reducible refine wrM (fun _ => ?_)) | (with_reducible refine pfM (fun _ => ?_)) | (with_reducible refine jnM ?_) | (with_reducible exact idM) | (with_reducible refine anM ?_ ?_) | (with_reducible refine imM ?_) | (with_reducible refine cpM (fun _ => ?_)) | (with_reducible refine rsM (fun _ => ?_)))
theorem m_p2_readClause_L5 {x1 : Int} {E57 E572 : HP → Prop} (hE57 : ∀ (y0 : HP), E57 y0 → E572 y0) : ∀ (fu : Nat) (a1 : HP), p2_readClause_L5 x1 E57 fu a1 → p2_readClause_L5 x1 E572 fu a1 := by
  intro fu
  induction fu with
  | zero => intro a1 H; exact (show False from H).elim
  | succ fu ih =>
    intro a1
    unfold p2_readClause_L5
    repeat' (first | (with_reducible exact ih _) | (with_reducible exact hE57 _) | (with_reducible refine brM ?_ ?_) | (with_reducible refine rdM (fun _ => ?_)) | (with_reducible refine wrM (fun _ => ?_)) | (with_reducible refine pfM (fun _ => ?_)) | (with_reducible refine jnM ?_) | (with_reducible exact idM) | (with_reducible refine anM ?_ ?_) | (with_reducible refine imM ?_) | (with_reducible refine cpM (fun _ => ?_)) | (with_reducible refine rsM (fun _ => ?_)))
theorem m_p2_readClause {h : HP} {Q Q2 : HP → Prop} (hQ : ∀ (y0 : HP), Q y0 → Q2 y0) : p2_readClause h Q → p2_readClause h Q2 := by
  unfold p2_readClause
  repeat' (first | (with_reducible exact hQ _) | (with_reducible refine m_p2_readClause_L5 (fun _ => ?_) _ _) | (with_reducible refine m_p2_isWord (fun _ => ?_)) | (with_reducible refine m_p2_fail (fun _ => ?_)) | (with_reducible refine m_p2_readWorth (fun _ => ?_)) | (with_reducible refine m_p2_readHouse (fun _ => ?_)) | (with_reducible refine m_p2_readSorts (fun _ => ?_)) | (with_reducible refine brM ?_ ?_) | (with_reducible refine rdM (fun _ => ?_)) | (with_reducible refine wrM (fun _ => ?_)) | (with_reducible refine pfM (fun _ => ?_)) | (with_reducible refine jnM ?_) | (with_reducible exact idM) | (with_reducible refine anM ?_ ?_) | (with_reducible refine imM ?_) | (with_reducible refine cpM (fun _ => ?_)) | (with_reducible refine rsM (fun _ => ?_)))
theorem m_p2_readText_L51 {E90 E902 : HP → Prop} (hE90 : ∀ (y0 : HP), E90 y0 → E902 y0) : ∀ (fu : Nat) (a1 : HP) (a2 : Int), p2_readText_L51 E90 fu a1 a2 → p2_readText_L51 E902 fu a1 a2 := by
  intro fu
  induction fu with
  | zero => intro a1 a2 H; exact (show False from H).elim
  | succ fu ih =>
    intro a1 a2
    unfold p2_readText_L51
    repeat' (first | (with_reducible exact ih _ _) | (with_reducible exact hE90 _) | (with_reducible refine m_p2_readClause (fun _ => ?_)) | (with_reducible refine m_p2_skipBlanks (fun _ => ?_)) | (with_reducible refine brM ?_ ?_) | (with_reducible refine rdM (fun _ => ?_)) | (with_reducible refine wrM (fun _ => ?_)) | (with_reducible refine pfM (fun _ => ?_)) | (with_reducible refine jnM ?_) | (with_reducible exact idM) | (with_reducible refine anM ?_ ?_) | (with_reducible refine imM ?_) | (with_reducible refine cpM (fun _ => ?_)) | (with_reducible refine rsM (fun _ => ?_)))
theorem m_p2_readText {x1 : Int} {h : HP} {Q Q2 : Int → HP → Prop} (hQ : ∀ (y0 : Int) (y1 : HP), Q y0 y1 → Q2 y0 y1) : p2_readText x1 h Q → p2_readText x1 h Q2 := by
  unfold p2_readText
  repeat' (first | (with_reducible exact hQ _ _) | (with_reducible refine m_p4_clear (fun _ => ?_)) | (with_reducible refine m_p2_skipBlanks (fun _ => ?_)) | (with_reducible refine m_p2_readText_L51 (fun _ => ?_) _ _ _) | (with_reducible refine brM ?_ ?_) | (with_reducible refine rdM (fun _ => ?_)) | (with_reducible refine wrM (fun _ => ?_)) | (with_reducible refine pfM (fun _ => ?_)) | (with_reducible refine jnM ?_) | (with_reducible exact idM) | (with_reducible refine anM ?_ ?_) | (with_reducible refine imM ?_) | (with_reducible refine cpM (fun _ => ?_)) | (with_reducible refine rsM (fun _ => ?_)))
theorem m_p4_copyFrom {h : HP} {Q Q2 : HP → Prop} (hQ : ∀ (y0 : HP), Q y0 → Q2 y0) : p4_copyFrom h Q → p4_copyFrom h Q2 := by
  unfold p4_copyFrom
  repeat' (first | (with_reducible exact hQ _) | (with_reducible refine brM ?_ ?_) | (with_reducible refine rdM (fun _ => ?_)) | (with_reducible refine wrM (fun _ => ?_)) | (with_reducible refine pfM (fun _ => ?_)) | (with_reducible refine jnM ?_) | (with_reducible exact idM) | (with_reducible refine anM ?_ ?_) | (with_reducible refine imM ?_) | (with_reducible refine cpM (fun _ => ?_)) | (with_reducible refine rsM (fun _ => ?_)))
theorem m_p5_handOver {b : Nat} {x1 : Int} {x2 : Int} {h : HP} {Q Q2 : HP → Prop} (hQ : ∀ (y0 : HP), Q y0 → Q2 y0) : p5_handOver b x1 x2 h Q → p5_handOver b x1 x2 h Q2 := by
  unfold p5_handOver
  repeat' (first | (with_reducible exact hQ _) | (with_reducible refine brM ?_ ?_) | (with_reducible refine rdM (fun _ => ?_)) | (with_reducible refine wrM (fun _ => ?_)) | (with_reducible refine pfM (fun _ => ?_)) | (with_reducible refine jnM ?_) | (with_reducible exact idM) | (with_reducible refine anM ?_ ?_) | (with_reducible refine imM ?_) | (with_reducible refine cpM (fun _ => ?_)) | (with_reducible refine rsM (fun _ => ?_)))
theorem m_p5_addPart {b : Nat} {x1 : Int} {x2 : Int} {h : HP} {Q Q2 : Int → HP → Prop} (hQ : ∀ (y0 : Int) (y1 : HP), Q y0 y1 → Q2 y0 y1) : p5_addPart b x1 x2 h Q → p5_addPart b x1 x2 h Q2 := by
  unfold p5_addPart
  repeat' (first | (with_reducible exact hQ _ _) | (with_reducible refine m_p5_handOver (fun _ => ?_)) | (with_reducible refine brM ?_ ?_) | (with_reducible refine rdM (fun _ => ?_)) | (with_reducible refine wrM (fun _ => ?_)) | (with_reducible refine pfM (fun _ => ?_)) | (with_reducible refine jnM ?_) | (with_reducible exact idM) | (with_reducible refine anM ?_ ?_) | (with_reducible refine imM ?_) | (with_reducible refine cpM (fun _ => ?_)) | (with_reducible refine rsM (fun _ => ?_)))
theorem m_p5_layOut_L28 {b : Nat} {Q Q2 : HP → Prop} (hQ : ∀ (y0 : HP), Q y0 → Q2 y0) : ∀ (fu : Nat) (a1 : HP) (a2 : Int), p5_layOut_L28 b Q fu a1 a2 → p5_layOut_L28 b Q2 fu a1 a2 := by
  intro fu
  induction fu with
  | zero => intro a1 a2 H; exact (show False from H).elim
  | succ fu ih =>
    intro a1 a2
    unfold p5_layOut_L28
    repeat' (first | (with_reducible exact ih _ _) | (with_reducible exact hQ _) | (with_reducible refine m_p5_addPart (fun _ _ => ?_)) | (with_reducible refine brM ?_ ?_) | (with_reducible refine rdM (fun _ => ?_)) | (with_reducible refine wrM (fun _ => ?_)) | (with_reducible refine pfM (fun _ => ?_)) | (with_reducible refine jnM ?_) | (with_reducible exact idM) | (with_reducible refine anM ?_ ?_) | (with_reducible refine imM ?_) | (with_reducible refine cpM (fun _ => ?_)) | (with_reducible refine rsM (fun _ => ?_)))
theorem m_p5_layOut {b : Nat} {h : HP} {Q Q2 : HP → Prop} (hQ : ∀ (y0 : HP), Q y0 → Q2 y0) : p5_layOut b h Q → p5_layOut b h Q2 := by
  unfold p5_layOut
  repeat' (first | (with_reducible exact hQ _) | (with_reducible refine m_pJ_fill (fun _ => ?_)) | (with_reducible refine m_p5_layOut_L28 (fun _ => ?_) _ _ _) | (with_reducible refine brM ?_ ?_) | (with_reducible refine rdM (fun _ => ?_)) | (with_reducible refine wrM (fun _ => ?_)) | (with_reducible refine pfM (fun _ => ?_)) | (with_reducible refine jnM ?_) | (with_reducible exact idM) | (with_reducible refine anM ?_ ?_) | (with_reducible refine imM ?_) | (with_reducible refine cpM (fun _ => ?_)) | (with_reducible refine rsM (fun _ => ?_)))
theorem m_p7_spit_L76 {Q Q2 : Int → HP → Prop} (hQ : ∀ (y0 : Int) (y1 : HP), Q y0 y1 → Q2 y0 y1) : ∀ (fu : Nat) (a1 : HP) (a2 : Int), p7_spit_L76 Q fu a1 a2 → p7_spit_L76 Q2 fu a1 a2 := by
  intro fu
  induction fu with
  | zero => intro a1 a2 H; exact (show False from H).elim
  | succ fu ih =>
    intro a1 a2
    unfold p7_spit_L76
    repeat' (first | (with_reducible exact ih _ _) | (with_reducible exact hQ _ _) | (with_reducible refine brM ?_ ?_) | (with_reducible refine rdM (fun _ => ?_)) | (with_reducible refine wrM (fun _ => ?_)) | (with_reducible refine pfM (fun _ => ?_)) | (with_reducible refine jnM ?_) | (with_reducible exact idM) | (with_reducible refine anM ?_ ?_) | (with_reducible refine imM ?_) | (with_reducible refine cpM (fun _ => ?_)) | (with_reducible refine rsM (fun _ => ?_)))
theorem m_p7_spit {h : HP} {Q Q2 : Int → HP → Prop} (hQ : ∀ (y0 : Int) (y1 : HP), Q y0 y1 → Q2 y0 y1) : p7_spit h Q → p7_spit h Q2 := by
  unfold p7_spit
  repeat' (first | (with_reducible exact hQ _ _) | (with_reducible refine m_p2_readText (fun _ _ => ?_)) | (with_reducible refine m_p4_copyFrom (fun _ => ?_)) | (with_reducible refine m_p5_layOut (fun _ => ?_)) | (with_reducible refine m_p7_spit_L76 (fun _ _ => ?_) _ _ _) | (with_reducible refine brM ?_ ?_) | (with_reducible refine rdM (fun _ => ?_)) | (with_reducible refine wrM (fun _ => ?_)) | (with_reducible refine pfM (fun _ => ?_)) | (with_reducible refine jnM ?_) | (with_reducible exact idM) | (with_reducible refine anM ?_ ?_) | (with_reducible refine imM ?_) | (with_reducible refine cpM (fun _ => ?_)) | (with_reducible refine rsM (fun _ => ?_)))
theorem m_p7_fault {h : HP} {Q Q2 : Int → Prop} (hQ : ∀ (y0 : Int), Q y0 → Q2 y0) : p7_fault h Q → p7_fault h Q2 := by
  unfold p7_fault
  repeat' (first | (with_reducible exact hQ _) | (with_reducible refine brM ?_ ?_) | (with_reducible refine rdM (fun _ => ?_)) | (with_reducible refine wrM (fun _ => ?_)) | (with_reducible refine pfM (fun _ => ?_)) | (with_reducible refine jnM ?_) | (with_reducible exact idM) | (with_reducible refine anM ?_ ?_) | (with_reducible refine imM ?_) | (with_reducible refine cpM (fun _ => ?_)) | (with_reducible refine rsM (fun _ => ?_)))
theorem m_p5_poorHouses_L4 {b : Nat} {h : HP} {Q Q2 : Int → Prop} (hQ : ∀ (y0 : Int), Q y0 → Q2 y0) : ∀ (fu : Nat) (a1 : Int) (a2 : Int), p5_poorHouses_L4 b h Q fu a1 a2 → p5_poorHouses_L4 b h Q2 fu a1 a2 := by
  intro fu
  induction fu with
  | zero => intro a1 a2 H; exact (show False from H).elim
  | succ fu ih =>
    intro a1 a2
    unfold p5_poorHouses_L4
    repeat' (first | (with_reducible exact ih _ _) | (with_reducible exact hQ _) | (with_reducible refine brM ?_ ?_) | (with_reducible refine rdM (fun _ => ?_)) | (with_reducible refine wrM (fun _ => ?_)) | (with_reducible refine pfM (fun _ => ?_)) | (with_reducible refine jnM ?_) | (with_reducible exact idM) | (with_reducible refine anM ?_ ?_) | (with_reducible refine imM ?_) | (with_reducible refine cpM (fun _ => ?_)) | (with_reducible refine rsM (fun _ => ?_)))
theorem m_p5_poorHouses {b : Nat} {h : HP} {Q Q2 : Int → Prop} (hQ : ∀ (y0 : Int), Q y0 → Q2 y0) : p5_poorHouses b h Q → p5_poorHouses b h Q2 := by
  unfold p5_poorHouses
  repeat' (first | (with_reducible exact hQ _) | (with_reducible refine m_p5_poorHouses_L4 (fun _ => ?_) _ _ _) | (with_reducible refine brM ?_ ?_) | (with_reducible refine rdM (fun _ => ?_)) | (with_reducible refine wrM (fun _ => ?_)) | (with_reducible refine pfM (fun _ => ?_)) | (with_reducible refine jnM ?_) | (with_reducible exact idM) | (with_reducible refine anM ?_ ?_) | (with_reducible refine imM ?_) | (with_reducible refine cpM (fun _ => ?_)) | (with_reducible refine rsM (fun _ => ?_)))
theorem m_p5_lies {b : Nat} {x1 : Int} {h : HP} {Q Q2 : Int → Prop} (hQ : ∀ (y0 : Int), Q y0 → Q2 y0) : p5_lies b x1 h Q → p5_lies b x1 h Q2 := by
  unfold p5_lies
  repeat' (first | (with_reducible exact hQ _) | (with_reducible refine brM ?_ ?_) | (with_reducible refine rdM (fun _ => ?_)) | (with_reducible refine wrM (fun _ => ?_)) | (with_reducible refine pfM (fun _ => ?_)) | (with_reducible refine jnM ?_) | (with_reducible exact idM) | (with_reducible refine anM ?_ ?_) | (with_reducible refine imM ?_) | (with_reducible refine cpM (fun _ => ?_)) | (with_reducible refine rsM (fun _ => ?_)))
theorem m_p5_countLying_L4 {b : Nat} {h : HP} {Q Q2 : Int → Prop} (hQ : ∀ (y0 : Int), Q y0 → Q2 y0) : ∀ (fu : Nat) (a1 : Int) (a2 : Int), p5_countLying_L4 b h Q fu a1 a2 → p5_countLying_L4 b h Q2 fu a1 a2 := by
  intro fu
  induction fu with
  | zero => intro a1 a2 H; exact (show False from H).elim
  | succ fu ih =>
    intro a1 a2
    unfold p5_countLying_L4
    repeat' (first | (with_reducible exact ih _ _) | (with_reducible exact hQ _) | (with_reducible refine m_p5_lies (fun _ => ?_)) | (with_reducible refine brM ?_ ?_) | (with_reducible refine rdM (fun _ => ?_)) | (with_reducible refine wrM (fun _ => ?_)) | (with_reducible refine pfM (fun _ => ?_)) | (with_reducible refine jnM ?_) | (with_reducible exact idM) | (with_reducible refine anM ?_ ?_) | (with_reducible refine imM ?_) | (with_reducible refine cpM (fun _ => ?_)) | (with_reducible refine rsM (fun _ => ?_)))
theorem m_p5_countLying {b : Nat} {h : HP} {Q Q2 : Int → Prop} (hQ : ∀ (y0 : Int), Q y0 → Q2 y0) : p5_countLying b h Q → p5_countLying b h Q2 := by
  unfold p5_countLying
  repeat' (first | (with_reducible exact hQ _) | (with_reducible refine m_p5_countLying_L4 (fun _ => ?_) _ _ _) | (with_reducible refine brM ?_ ?_) | (with_reducible refine rdM (fun _ => ?_)) | (with_reducible refine wrM (fun _ => ?_)) | (with_reducible refine pfM (fun _ => ?_)) | (with_reducible refine jnM ?_) | (with_reducible exact idM) | (with_reducible refine anM ?_ ?_) | (with_reducible refine imM ?_) | (with_reducible refine cpM (fun _ => ?_)) | (with_reducible refine rsM (fun _ => ?_)))
theorem m_p7_told {x1 : Int} {h : HP} {Q Q2 : Int → Prop} (hQ : ∀ (y0 : Int), Q y0 → Q2 y0) : p7_told x1 h Q → p7_told x1 h Q2 := by
  unfold p7_told
  repeat' (first | (with_reducible exact hQ _) | (with_reducible refine m_p5_poorHouses (fun _ => ?_)) | (with_reducible refine m_p5_countLying (fun _ => ?_)) | (with_reducible refine brM ?_ ?_) | (with_reducible refine rdM (fun _ => ?_)) | (with_reducible refine wrM (fun _ => ?_)) | (with_reducible refine pfM (fun _ => ?_)) | (with_reducible refine jnM ?_) | (with_reducible exact idM) | (with_reducible refine anM ?_ ?_) | (with_reducible refine imM ?_) | (with_reducible refine cpM (fun _ => ?_)) | (with_reducible refine rsM (fun _ => ?_)))
theorem m_p4_isHouse {x1 : Int} {h : HP} {Q Q2 : Int → Prop} (hQ : ∀ (y0 : Int), Q y0 → Q2 y0) : p4_isHouse x1 h Q → p4_isHouse x1 h Q2 := by
  unfold p4_isHouse
  repeat' (first | (with_reducible exact hQ _) | (with_reducible refine brM ?_ ?_) | (with_reducible refine rdM (fun _ => ?_)) | (with_reducible refine wrM (fun _ => ?_)) | (with_reducible refine pfM (fun _ => ?_)) | (with_reducible refine jnM ?_) | (with_reducible exact idM) | (with_reducible refine anM ?_ ?_) | (with_reducible refine imM ?_) | (with_reducible refine cpM (fun _ => ?_)) | (with_reducible refine rsM (fun _ => ?_)))
theorem m_p4_worthOf {x1 : Int} {x2 : Int} {h : HP} {Q Q2 : Int → Prop} (hQ : ∀ (y0 : Int), Q y0 → Q2 y0) : p4_worthOf x1 x2 h Q → p4_worthOf x1 x2 h Q2 := by
  unfold p4_worthOf
  repeat' (first | (with_reducible exact hQ _) | (with_reducible refine brM ?_ ?_) | (with_reducible refine rdM (fun _ => ?_)) | (with_reducible refine wrM (fun _ => ?_)) | (with_reducible refine pfM (fun _ => ?_)) | (with_reducible refine jnM ?_) | (with_reducible exact idM) | (with_reducible refine anM ?_ ?_) | (with_reducible refine imM ?_) | (with_reducible refine cpM (fun _ => ?_)) | (with_reducible refine rsM (fun _ => ?_)))
theorem m_p5_wealthOf_L4 {b : Nat} {x1 : Int} {h : HP} {Q Q2 : Int → Prop} (hQ : ∀ (y0 : Int), Q y0 → Q2 y0) : ∀ (fu : Nat) (a1 : Int) (a2 : Int), p5_wealthOf_L4 b x1 h Q fu a1 a2 → p5_wealthOf_L4 b x1 h Q2 fu a1 a2 := by
  intro fu
  induction fu with
  | zero => intro a1 a2 H; exact (show False from H).elim
  | succ fu ih =>
    intro a1 a2
    unfold p5_wealthOf_L4
    repeat' (first | (with_reducible exact ih _ _) | (with_reducible exact hQ _) | (with_reducible refine m_p4_worthOf (fun _ => ?_)) | (with_reducible refine brM ?_ ?_) | (with_reducible refine rdM (fun _ => ?_)) | (with_reducible refine wrM (fun _ => ?_)) | (with_reducible refine pfM (fun _ => ?_)) | (with_reducible refine jnM ?_) | (with_reducible exact idM) | (with_reducible refine anM ?_ ?_) | (with_reducible refine imM ?_) | (with_reducible refine cpM (fun _ => ?_)) | (with_reducible refine rsM (fun _ => ?_)))
theorem m_p5_wealthOf {b : Nat} {x1 : Int} {h : HP} {Q Q2 : Int → Prop} (hQ : ∀ (y0 : Int), Q y0 → Q2 y0) : p5_wealthOf b x1 h Q → p5_wealthOf b x1 h Q2 := by
  unfold p5_wealthOf
  repeat' (first | (with_reducible exact hQ _) | (with_reducible refine m_p5_wealthOf_L4 (fun _ => ?_) _ _ _) | (with_reducible refine brM ?_ ?_) | (with_reducible refine rdM (fun _ => ?_)) | (with_reducible refine wrM (fun _ => ?_)) | (with_reducible refine pfM (fun _ => ?_)) | (with_reducible refine jnM ?_) | (with_reducible exact idM) | (with_reducible refine anM ?_ ?_) | (with_reducible refine imM ?_) | (with_reducible refine cpM (fun _ => ?_)) | (with_reducible refine rsM (fun _ => ?_)))
theorem m_p5_sortsHad_L4 {b : Nat} {x1 : Int} {h : HP} {Q Q2 : Int → Prop} (hQ : ∀ (y0 : Int), Q y0 → Q2 y0) : ∀ (fu : Nat) (a1 : Int) (a2 : Int), p5_sortsHad_L4 b x1 h Q fu a1 a2 → p5_sortsHad_L4 b x1 h Q2 fu a1 a2 := by
  intro fu
  induction fu with
  | zero => intro a1 a2 H; exact (show False from H).elim
  | succ fu ih =>
    intro a1 a2
    unfold p5_sortsHad_L4
    repeat' (first | (with_reducible exact ih _ _) | (with_reducible exact hQ _) | (with_reducible refine brM ?_ ?_) | (with_reducible refine rdM (fun _ => ?_)) | (with_reducible refine wrM (fun _ => ?_)) | (with_reducible refine pfM (fun _ => ?_)) | (with_reducible refine jnM ?_) | (with_reducible exact idM) | (with_reducible refine anM ?_ ?_) | (with_reducible refine imM ?_) | (with_reducible refine cpM (fun _ => ?_)) | (with_reducible refine rsM (fun _ => ?_)))
theorem m_p5_sortsHad {b : Nat} {x1 : Int} {h : HP} {Q Q2 : Int → Prop} (hQ : ∀ (y0 : Int), Q y0 → Q2 y0) : p5_sortsHad b x1 h Q → p5_sortsHad b x1 h Q2 := by
  unfold p5_sortsHad
  repeat' (first | (with_reducible exact hQ _) | (with_reducible refine m_p5_sortsHad_L4 (fun _ => ?_) _ _ _) | (with_reducible refine brM ?_ ?_) | (with_reducible refine rdM (fun _ => ?_)) | (with_reducible refine wrM (fun _ => ?_)) | (with_reducible refine pfM (fun _ => ?_)) | (with_reducible refine jnM ?_) | (with_reducible exact idM) | (with_reducible refine anM ?_ ?_) | (with_reducible refine imM ?_) | (with_reducible refine cpM (fun _ => ?_)) | (with_reducible refine rsM (fun _ => ?_)))
theorem m_p5_countInYard_L4 {b : Nat} {x1 : Int} {h : HP} {Q Q2 : Int → Prop} (hQ : ∀ (y0 : Int), Q y0 → Q2 y0) : ∀ (fu : Nat) (a1 : Int) (a2 : Int), p5_countInYard_L4 b x1 h Q fu a1 a2 → p5_countInYard_L4 b x1 h Q2 fu a1 a2 := by
  intro fu
  induction fu with
  | zero => intro a1 a2 H; exact (show False from H).elim
  | succ fu ih =>
    intro a1 a2
    unfold p5_countInYard_L4
    repeat' (first | (with_reducible exact ih _ _) | (with_reducible exact hQ _) | (with_reducible refine brM ?_ ?_) | (with_reducible refine rdM (fun _ => ?_)) | (with_reducible refine wrM (fun _ => ?_)) | (with_reducible refine pfM (fun _ => ?_)) | (with_reducible refine jnM ?_) | (with_reducible exact idM) | (with_reducible refine anM ?_ ?_) | (with_reducible refine imM ?_) | (with_reducible refine cpM (fun _ => ?_)) | (with_reducible refine rsM (fun _ => ?_)))
theorem m_p5_countInYard {b : Nat} {x1 : Int} {h : HP} {Q Q2 : Int → Prop} (hQ : ∀ (y0 : Int), Q y0 → Q2 y0) : p5_countInYard b x1 h Q → p5_countInYard b x1 h Q2 := by
  unfold p5_countInYard
  repeat' (first | (with_reducible exact hQ _) | (with_reducible refine m_p5_countInYard_L4 (fun _ => ?_) _ _ _) | (with_reducible refine brM ?_ ?_) | (with_reducible refine rdM (fun _ => ?_)) | (with_reducible refine wrM (fun _ => ?_)) | (with_reducible refine pfM (fun _ => ?_)) | (with_reducible refine jnM ?_) | (with_reducible exact idM) | (with_reducible refine anM ?_ ?_) | (with_reducible refine imM ?_) | (with_reducible refine cpM (fun _ => ?_)) | (with_reducible refine rsM (fun _ => ?_)))
theorem m_p7_house {x1 : Int} {x2 : Int} {h : HP} {Q Q2 : Int → Prop} (hQ : ∀ (y0 : Int), Q y0 → Q2 y0) : p7_house x1 x2 h Q → p7_house x1 x2 h Q2 := by
  unfold p7_house
  repeat' (first | (with_reducible exact hQ _) | (with_reducible refine m_p4_isHouse (fun _ => ?_)) | (with_reducible refine m_p5_wealthOf (fun _ => ?_)) | (with_reducible refine m_p5_sortsHad (fun _ => ?_)) | (with_reducible refine m_p5_countInYard (fun _ => ?_)) | (with_reducible refine brM ?_ ?_) | (with_reducible refine rdM (fun _ => ?_)) | (with_reducible refine wrM (fun _ => ?_)) | (with_reducible refine pfM (fun _ => ?_)) | (with_reducible refine jnM ?_) | (with_reducible exact idM) | (with_reducible refine anM ?_ ?_) | (with_reducible refine imM ?_) | (with_reducible refine cpM (fun _ => ?_)) | (with_reducible refine rsM (fun _ => ?_)))
theorem m_p4_isSort {x1 : Int} {h : HP} {Q Q2 : Int → Prop} (hQ : ∀ (y0 : Int), Q y0 → Q2 y0) : p4_isSort x1 h Q → p4_isSort x1 h Q2 := by
  unfold p4_isSort
  repeat' (first | (with_reducible exact hQ _) | (with_reducible refine brM ?_ ?_) | (with_reducible refine rdM (fun _ => ?_)) | (with_reducible refine wrM (fun _ => ?_)) | (with_reducible refine pfM (fun _ => ?_)) | (with_reducible refine jnM ?_) | (with_reducible exact idM) | (with_reducible refine anM ?_ ?_) | (with_reducible refine imM ?_) | (with_reducible refine cpM (fun _ => ?_)) | (with_reducible refine rsM (fun _ => ?_)))
theorem m_p7_worth {x1 : Int} {x2 : Int} {h : HP} {Q Q2 : Int → Prop} (hQ : ∀ (y0 : Int), Q y0 → Q2 y0) : p7_worth x1 x2 h Q → p7_worth x1 x2 h Q2 := by
  unfold p7_worth
  repeat' (first | (with_reducible exact hQ _) | (with_reducible refine m_p4_isHouse (fun _ => ?_)) | (with_reducible refine m_p4_isSort (fun _ => ?_)) | (with_reducible refine m_p4_worthOf (fun _ => ?_)) | (with_reducible refine brM ?_ ?_) | (with_reducible refine rdM (fun _ => ?_)) | (with_reducible refine wrM (fun _ => ?_)) | (with_reducible refine pfM (fun _ => ?_)) | (with_reducible refine jnM ?_) | (with_reducible exact idM) | (with_reducible refine anM ?_ ?_) | (with_reducible refine imM ?_) | (with_reducible refine cpM (fun _ => ?_)) | (with_reducible refine rsM (fun _ => ?_)))
theorem m_p5_isPart {b : Nat} {x1 : Int} {h : HP} {Q Q2 : Int → Prop} (hQ : ∀ (y0 : Int), Q y0 → Q2 y0) : p5_isPart b x1 h Q → p5_isPart b x1 h Q2 := by
  unfold p5_isPart
  repeat' (first | (with_reducible exact hQ _) | (with_reducible refine brM ?_ ?_) | (with_reducible refine rdM (fun _ => ?_)) | (with_reducible refine wrM (fun _ => ?_)) | (with_reducible refine pfM (fun _ => ?_)) | (with_reducible refine jnM ?_) | (with_reducible exact idM) | (with_reducible refine anM ?_ ?_) | (with_reducible refine imM ?_) | (with_reducible refine cpM (fun _ => ?_)) | (with_reducible refine rsM (fun _ => ?_)))
theorem m_p7_part {x1 : Int} {x2 : Int} {h : HP} {Q Q2 : Int → Prop} (hQ : ∀ (y0 : Int), Q y0 → Q2 y0) : p7_part x1 x2 h Q → p7_part x1 x2 h Q2 := by
  unfold p7_part
  repeat' (first | (with_reducible exact hQ _) | (with_reducible refine m_p5_isPart (fun _ => ?_)) | (with_reducible refine brM ?_ ?_) | (with_reducible refine rdM (fun _ => ?_)) | (with_reducible refine wrM (fun _ => ?_)) | (with_reducible refine pfM (fun _ => ?_)) | (with_reducible refine jnM ?_) | (with_reducible exact idM) | (with_reducible refine anM ?_ ?_) | (with_reducible refine imM ?_) | (with_reducible refine cpM (fun _ => ?_)) | (with_reducible refine rsM (fun _ => ?_)))
theorem m_p7_hand {x1 : Int} {x2 : Int} {h : HP} {Q Q2 : Int → Prop} (hQ : ∀ (y0 : Int), Q y0 → Q2 y0) : p7_hand x1 x2 h Q → p7_hand x1 x2 h Q2 := by
  unfold p7_hand
  repeat' (first | (with_reducible exact hQ _) | (with_reducible refine m_p5_isPart (fun _ => ?_)) | (with_reducible refine brM ?_ ?_) | (with_reducible refine rdM (fun _ => ?_)) | (with_reducible refine wrM (fun _ => ?_)) | (with_reducible refine pfM (fun _ => ?_)) | (with_reducible refine jnM ?_) | (with_reducible exact idM) | (with_reducible refine anM ?_ ?_) | (with_reducible refine imM ?_) | (with_reducible refine cpM (fun _ => ?_)) | (with_reducible refine rsM (fun _ => ?_)))
theorem m_p5_throwOut {b : Nat} {x1 : Int} {x2 : Int} {h : HP} {Q Q2 : Int → HP → Prop} (hQ : ∀ (y0 : Int) (y1 : HP), Q y0 y1 → Q2 y0 y1) : p5_throwOut b x1 x2 h Q → p5_throwOut b x1 x2 h Q2 := by
  unfold p5_throwOut
  repeat' (first | (with_reducible exact hQ _ _) | (with_reducible refine brM ?_ ?_) | (with_reducible refine rdM (fun _ => ?_)) | (with_reducible refine wrM (fun _ => ?_)) | (with_reducible refine pfM (fun _ => ?_)) | (with_reducible refine jnM ?_) | (with_reducible exact idM) | (with_reducible refine anM ?_ ?_) | (with_reducible refine imM ?_) | (with_reducible refine cpM (fun _ => ?_)) | (with_reducible refine rsM (fun _ => ?_)))
theorem m_p7_toss {x1 : Int} {x2 : Int} {h : HP} {Q Q2 : Int → HP → Prop} (hQ : ∀ (y0 : Int) (y1 : HP), Q y0 y1 → Q2 y0 y1) : p7_toss x1 x2 h Q → p7_toss x1 x2 h Q2 := by
  unfold p7_toss
  repeat' (first | (with_reducible exact hQ _ _) | (with_reducible refine m_p4_isHouse (fun _ => ?_)) | (with_reducible refine m_p5_isPart (fun _ => ?_)) | (with_reducible refine m_p5_throwOut (fun _ _ => ?_)) | (with_reducible refine brM ?_ ?_) | (with_reducible refine rdM (fun _ => ?_)) | (with_reducible refine wrM (fun _ => ?_)) | (with_reducible refine pfM (fun _ => ?_)) | (with_reducible refine jnM ?_) | (with_reducible exact idM) | (with_reducible refine anM ?_ ?_) | (with_reducible refine imM ?_) | (with_reducible refine cpM (fun _ => ?_)) | (with_reducible refine rsM (fun _ => ?_)))
theorem m_p5_mayTake {b : Nat} {x1 : Int} {x2 : Int} {h : HP} {Q Q2 : Int → Prop} (hQ : ∀ (y0 : Int), Q y0 → Q2 y0) : p5_mayTake b x1 x2 h Q → p5_mayTake b x1 x2 h Q2 := by
  unfold p5_mayTake
  repeat' (first | (with_reducible exact hQ _) | (with_reducible refine m_p5_lies (fun _ => ?_)) | (with_reducible refine brM ?_ ?_) | (with_reducible refine rdM (fun _ => ?_)) | (with_reducible refine wrM (fun _ => ?_)) | (with_reducible refine pfM (fun _ => ?_)) | (with_reducible refine jnM ?_) | (with_reducible exact idM) | (with_reducible refine anM ?_ ?_) | (with_reducible refine imM ?_) | (with_reducible refine cpM (fun _ => ?_)) | (with_reducible refine rsM (fun _ => ?_)))
theorem m_p5_carryHome {b : Nat} {x1 : Int} {x2 : Int} {h : HP} {Q Q2 : Int → HP → Prop} (hQ : ∀ (y0 : Int) (y1 : HP), Q y0 y1 → Q2 y0 y1) : p5_carryHome b x1 x2 h Q → p5_carryHome b x1 x2 h Q2 := by
  unfold p5_carryHome
  repeat' (first | (with_reducible exact hQ _ _) | (with_reducible refine m_p5_mayTake (fun _ => ?_)) | (with_reducible refine m_p5_handOver (fun _ => ?_)) | (with_reducible refine brM ?_ ?_) | (with_reducible refine rdM (fun _ => ?_)) | (with_reducible refine wrM (fun _ => ?_)) | (with_reducible refine pfM (fun _ => ?_)) | (with_reducible refine jnM ?_) | (with_reducible exact idM) | (with_reducible refine anM ?_ ?_) | (with_reducible refine imM ?_) | (with_reducible refine cpM (fun _ => ?_)) | (with_reducible refine rsM (fun _ => ?_)))
theorem m_p7_take {x1 : Int} {x2 : Int} {h : HP} {Q Q2 : Int → HP → Prop} (hQ : ∀ (y0 : Int) (y1 : HP), Q y0 y1 → Q2 y0 y1) : p7_take x1 x2 h Q → p7_take x1 x2 h Q2 := by
  unfold p7_take
  repeat' (first | (with_reducible exact hQ _ _) | (with_reducible refine m_p4_isHouse (fun _ => ?_)) | (with_reducible refine m_p5_isPart (fun _ => ?_)) | (with_reducible refine m_p5_carryHome (fun _ _ => ?_)) | (with_reducible refine brM ?_ ?_) | (with_reducible refine rdM (fun _ => ?_)) | (with_reducible refine wrM (fun _ => ?_)) | (with_reducible refine pfM (fun _ => ?_)) | (with_reducible refine jnM ?_) | (with_reducible exact idM) | (with_reducible refine anM ?_ ?_) | (with_reducible refine imM ?_) | (with_reducible refine cpM (fun _ => ?_)) | (with_reducible refine rsM (fun _ => ?_)))
theorem m_p7_ashore {x1 : Int} {h : HP} {Q Q2 : Int → HP → Prop} (hQ : ∀ (y0 : Int) (y1 : HP), Q y0 y1 → Q2 y0 y1) : p7_ashore x1 h Q → p7_ashore x1 h Q2 := by
  unfold p7_ashore
  repeat' (first | (with_reducible exact hQ _ _) | (with_reducible refine m_p4_isSort (fun _ => ?_)) | (with_reducible refine m_p5_addPart (fun _ _ => ?_)) | (with_reducible refine brM ?_ ?_) | (with_reducible refine rdM (fun _ => ?_)) | (with_reducible refine wrM (fun _ => ?_)) | (with_reducible refine pfM (fun _ => ?_)) | (with_reducible refine jnM ?_) | (with_reducible exact idM) | (with_reducible refine anM ?_ ?_) | (with_reducible refine imM ?_) | (with_reducible refine cpM (fun _ => ?_)) | (with_reducible refine rsM (fun _ => ?_)))
theorem m_p5_gainOf {b : Nat} {x1 : Int} {x2 : Int} {h : HP} {Q Q2 : Int → Prop} (hQ : ∀ (y0 : Int), Q y0 → Q2 y0) : p5_gainOf b x1 x2 h Q → p5_gainOf b x1 x2 h Q2 := by
  unfold p5_gainOf
  repeat' (first | (with_reducible exact hQ _) | (with_reducible refine m_p4_worthOf (fun _ => ?_)) | (with_reducible refine brM ?_ ?_) | (with_reducible refine rdM (fun _ => ?_)) | (with_reducible refine wrM (fun _ => ?_)) | (with_reducible refine pfM (fun _ => ?_)) | (with_reducible refine jnM ?_) | (with_reducible exact idM) | (with_reducible refine anM ?_ ?_) | (with_reducible refine imM ?_) | (with_reducible refine cpM (fun _ => ?_)) | (with_reducible refine rsM (fun _ => ?_)))
theorem m_p5_firstAt_L41 {b : Nat} {x1 : Int} {x2 : Int} {h : HP} {Q Q2 : Int → Prop} (hQ : ∀ (y0 : Int), Q y0 → Q2 y0) : ∀ (fu : Nat) (a1 : Int) (a2 : Int) (a3 : Int) (a4 : Int), p5_firstAt_L41 b x1 x2 h Q fu a1 a2 a3 a4 → p5_firstAt_L41 b x1 x2 h Q2 fu a1 a2 a3 a4 := by
  intro fu
  induction fu with
  | zero => intro a1 a2 a3 a4 H; exact (show False from H).elim
  | succ fu ih =>
    intro a1 a2 a3 a4
    unfold p5_firstAt_L41
    repeat' (first | (with_reducible exact ih _ _ _ _) | (with_reducible exact hQ _) | (with_reducible refine m_p5_gainOf (fun _ => ?_)) | (with_reducible refine m_p5_mayTake (fun _ => ?_)) | (with_reducible refine brM ?_ ?_) | (with_reducible refine rdM (fun _ => ?_)) | (with_reducible refine wrM (fun _ => ?_)) | (with_reducible refine pfM (fun _ => ?_)) | (with_reducible refine jnM ?_) | (with_reducible exact idM) | (with_reducible refine anM ?_ ?_) | (with_reducible refine imM ?_) | (with_reducible refine cpM (fun _ => ?_)) | (with_reducible refine rsM (fun _ => ?_)))
theorem m_p5_firstAt {b : Nat} {x1 : Int} {h : HP} {Q Q2 : Int → Prop} (hQ : ∀ (y0 : Int), Q y0 → Q2 y0) : p5_firstAt b x1 h Q → p5_firstAt b x1 h Q2 := by
  unfold p5_firstAt
  repeat' (first | (with_reducible exact hQ _) | (with_reducible refine m_p5_firstAt_L41 (fun _ => ?_) _ _ _ _ _) | (with_reducible refine brM ?_ ?_) | (with_reducible refine rdM (fun _ => ?_)) | (with_reducible refine wrM (fun _ => ?_)) | (with_reducible refine pfM (fun _ => ?_)) | (with_reducible refine jnM ?_) | (with_reducible exact idM) | (with_reducible refine anM ?_ ?_) | (with_reducible refine imM ?_) | (with_reducible refine cpM (fun _ => ?_)) | (with_reducible refine rsM (fun _ => ?_)))
theorem m_p7_first {x1 : Int} {h : HP} {Q Q2 : Int → Prop} (hQ : ∀ (y0 : Int), Q y0 → Q2 y0) : p7_first x1 h Q → p7_first x1 h Q2 := by
  unfold p7_first
  repeat' (first | (with_reducible exact hQ _) | (with_reducible refine m_p5_isPart (fun _ => ?_)) | (with_reducible refine m_p5_lies (fun _ => ?_)) | (with_reducible refine m_p5_firstAt (fun _ => ?_)) | (with_reducible refine brM ?_ ?_) | (with_reducible refine rdM (fun _ => ?_)) | (with_reducible refine wrM (fun _ => ?_)) | (with_reducible refine pfM (fun _ => ?_)) | (with_reducible refine jnM ?_) | (with_reducible exact idM) | (with_reducible refine anM ?_ ?_) | (with_reducible refine imM ?_) | (with_reducible refine cpM (fun _ => ?_)) | (with_reducible refine rsM (fun _ => ?_)))
theorem m_p5_draw {b : Nat} {x1 : Int} {h : HP} {Q Q2 : Int → HP → Prop} (hQ : ∀ (y0 : Int) (y1 : HP), Q y0 y1 → Q2 y0 y1) : p5_draw b x1 h Q → p5_draw b x1 h Q2 := by
  unfold p5_draw
  repeat' (first | (with_reducible exact hQ _ _) | (with_reducible refine brM ?_ ?_) | (with_reducible refine rdM (fun _ => ?_)) | (with_reducible refine wrM (fun _ => ?_)) | (with_reducible refine pfM (fun _ => ?_)) | (with_reducible refine jnM ?_) | (with_reducible exact idM) | (with_reducible refine anM ?_ ?_) | (with_reducible refine imM ?_) | (with_reducible refine cpM (fun _ => ?_)) | (with_reducible refine rsM (fun _ => ?_)))
theorem m_p5_comeByDraw {b : Nat} {h : HP} {Q Q2 : Int → HP → Prop} (hQ : ∀ (y0 : Int) (y1 : HP), Q y0 y1 → Q2 y0 y1) : p5_comeByDraw b h Q → p5_comeByDraw b h Q2 := by
  unfold p5_comeByDraw
  repeat' (first | (with_reducible exact hQ _ _) | (with_reducible refine m_p5_draw (fun _ _ => ?_)) | (with_reducible refine m_p5_addPart (fun _ _ => ?_)) | (with_reducible refine brM ?_ ?_) | (with_reducible refine rdM (fun _ => ?_)) | (with_reducible refine wrM (fun _ => ?_)) | (with_reducible refine pfM (fun _ => ?_)) | (with_reducible refine jnM ?_) | (with_reducible exact idM) | (with_reducible refine anM ?_ ?_) | (with_reducible refine imM ?_) | (with_reducible refine cpM (fun _ => ?_)) | (with_reducible refine rsM (fun _ => ?_)))
theorem m_p5_partToTake_L7 {b : Nat} {x1 : Int} {h : HP} {Q Q2 : Int → Prop} (hQ : ∀ (y0 : Int), Q y0 → Q2 y0) : ∀ (fu : Nat) (a1 : Int) (a2 : Int) (a3 : Int), p5_partToTake_L7 b x1 h Q fu a1 a2 a3 → p5_partToTake_L7 b x1 h Q2 fu a1 a2 a3 := by
  intro fu
  induction fu with
  | zero => intro a1 a2 a3 H; exact (show False from H).elim
  | succ fu ih =>
    intro a1 a2 a3
    unfold p5_partToTake_L7
    repeat' (first | (with_reducible exact ih _ _ _) | (with_reducible exact hQ _) | (with_reducible refine m_p5_mayTake (fun _ => ?_)) | (with_reducible refine m_p5_gainOf (fun _ => ?_)) | (with_reducible refine brM ?_ ?_) | (with_reducible refine rdM (fun _ => ?_)) | (with_reducible refine wrM (fun _ => ?_)) | (with_reducible refine pfM (fun _ => ?_)) | (with_reducible refine jnM ?_) | (with_reducible exact idM) | (with_reducible refine anM ?_ ?_) | (with_reducible refine imM ?_) | (with_reducible refine cpM (fun _ => ?_)) | (with_reducible refine rsM (fun _ => ?_)))
theorem m_p5_partToTake {b : Nat} {x1 : Int} {h : HP} {Q Q2 : Int → Prop} (hQ : ∀ (y0 : Int), Q y0 → Q2 y0) : p5_partToTake b x1 h Q → p5_partToTake b x1 h Q2 := by
  unfold p5_partToTake
  repeat' (first | (with_reducible exact hQ _) | (with_reducible refine m_p5_partToTake_L7 (fun _ => ?_) _ _ _ _) | (with_reducible refine brM ?_ ?_) | (with_reducible refine rdM (fun _ => ?_)) | (with_reducible refine wrM (fun _ => ?_)) | (with_reducible refine pfM (fun _ => ?_)) | (with_reducible refine jnM ?_) | (with_reducible exact idM) | (with_reducible refine anM ?_ ?_) | (with_reducible refine imM ?_) | (with_reducible refine cpM (fun _ => ?_)) | (with_reducible refine rsM (fun _ => ?_)))
theorem m_p5_lossOf {b : Nat} {x1 : Int} {x2 : Int} {h : HP} {Q Q2 : Int → Prop} (hQ : ∀ (y0 : Int), Q y0 → Q2 y0) : p5_lossOf b x1 x2 h Q → p5_lossOf b x1 x2 h Q2 := by
  unfold p5_lossOf
  repeat' (first | (with_reducible exact hQ _) | (with_reducible refine m_p4_worthOf (fun _ => ?_)) | (with_reducible refine brM ?_ ?_) | (with_reducible refine rdM (fun _ => ?_)) | (with_reducible refine wrM (fun _ => ?_)) | (with_reducible refine pfM (fun _ => ?_)) | (with_reducible refine jnM ?_) | (with_reducible exact idM) | (with_reducible refine anM ?_ ?_) | (with_reducible refine imM ?_) | (with_reducible refine cpM (fun _ => ?_)) | (with_reducible refine rsM (fun _ => ?_)))
theorem m_p5_throwSpare_L2 {b : Nat} {x1 : Int} {Q Q2 : HP → Prop} (hQ : ∀ (y0 : HP), Q y0 → Q2 y0) : ∀ (fu : Nat) (a1 : HP) (a2 : Int), p5_throwSpare_L2 b x1 Q fu a1 a2 → p5_throwSpare_L2 b x1 Q2 fu a1 a2 := by
  intro fu
  induction fu with
  | zero => intro a1 a2 H; exact (show False from H).elim
  | succ fu ih =>
    intro a1 a2
    unfold p5_throwSpare_L2
    repeat' (first | (with_reducible exact ih _ _) | (with_reducible exact hQ _) | (with_reducible refine m_p5_lossOf (fun _ => ?_)) | (with_reducible refine m_p5_throwOut (fun _ _ => ?_)) | (with_reducible refine brM ?_ ?_) | (with_reducible refine rdM (fun _ => ?_)) | (with_reducible refine wrM (fun _ => ?_)) | (with_reducible refine pfM (fun _ => ?_)) | (with_reducible refine jnM ?_) | (with_reducible exact idM) | (with_reducible refine anM ?_ ?_) | (with_reducible refine imM ?_) | (with_reducible refine cpM (fun _ => ?_)) | (with_reducible refine rsM (fun _ => ?_)))
theorem m_p5_throwSpare {b : Nat} {x1 : Int} {h : HP} {Q Q2 : HP → Prop} (hQ : ∀ (y0 : HP), Q y0 → Q2 y0) : p5_throwSpare b x1 h Q → p5_throwSpare b x1 h Q2 := by
  unfold p5_throwSpare
  repeat' (first | (with_reducible exact hQ _) | (with_reducible refine m_p5_throwSpare_L2 (fun _ => ?_) _ _ _) | (with_reducible refine brM ?_ ?_) | (with_reducible refine rdM (fun _ => ?_)) | (with_reducible refine wrM (fun _ => ?_)) | (with_reducible refine pfM (fun _ => ?_)) | (with_reducible refine jnM ?_) | (with_reducible exact idM) | (with_reducible refine anM ?_ ?_) | (with_reducible refine imM ?_) | (with_reducible refine cpM (fun _ => ?_)) | (with_reducible refine rsM (fun _ => ?_)))
theorem m_p5_liveWeek_L9 {b : Nat} {E54 E542 : HP → Int → Prop} (hE54 : ∀ (y0 : HP) (y1 : Int), E54 y0 y1 → E542 y0 y1) : ∀ (fu : Nat) (a1 : HP) (a2 : Int) (a3 : Int), p5_liveWeek_L9 b E54 fu a1 a2 a3 → p5_liveWeek_L9 b E542 fu a1 a2 a3 := by
  intro fu
  induction fu with
  | zero => intro a1 a2 a3 H; exact (show False from H).elim
  | succ fu ih =>
    intro a1 a2 a3
    unfold p5_liveWeek_L9
    repeat' (first | (with_reducible exact ih _ _ _) | (with_reducible exact hE54 _ _) | (with_reducible refine m_p5_partToTake (fun _ => ?_)) | (with_reducible refine m_p5_throwSpare (fun _ => ?_)) | (with_reducible refine m_p5_carryHome (fun _ _ => ?_)) | (with_reducible refine brM ?_ ?_) | (with_reducible refine rdM (fun _ => ?_)) | (with_reducible refine wrM (fun _ => ?_)) | (with_reducible refine pfM (fun _ => ?_)) | (with_reducible refine jnM ?_) | (with_reducible exact idM) | (with_reducible refine anM ?_ ?_) | (with_reducible refine imM ?_) | (with_reducible refine cpM (fun _ => ?_)) | (with_reducible refine rsM (fun _ => ?_)))
theorem m_p5_liveWeek {b : Nat} {h : HP} {Q Q2 : Int → HP → Prop} (hQ : ∀ (y0 : Int) (y1 : HP), Q y0 y1 → Q2 y0 y1) : p5_liveWeek b h Q → p5_liveWeek b h Q2 := by
  unfold p5_liveWeek
  repeat' (first | (with_reducible exact hQ _ _) | (with_reducible refine m_p5_liveWeek_L9 (fun _ _ => ?_) _ _ _ _) | (with_reducible refine brM ?_ ?_) | (with_reducible refine rdM (fun _ => ?_)) | (with_reducible refine wrM (fun _ => ?_)) | (with_reducible refine pfM (fun _ => ?_)) | (with_reducible refine jnM ?_) | (with_reducible exact idM) | (with_reducible refine anM ?_ ?_) | (with_reducible refine imM ?_) | (with_reducible refine cpM (fun _ => ?_)) | (with_reducible refine rsM (fun _ => ?_)))
theorem m_p5_liveWeeks_L5 {b : Nat} {x1 : Int} {x2 : Int} {E48 E482 : HP → Int → Int → Prop} {Q Q2 : Int → HP → Prop} (hE48 : ∀ (y0 : HP) (y1 : Int) (y2 : Int), E48 y0 y1 y2 → E482 y0 y1 y2) (hQ : ∀ (y0 : Int) (y1 : HP), Q y0 y1 → Q2 y0 y1) : ∀ (fu : Nat) (a1 : HP) (a2 : Int) (a3 : Int), p5_liveWeeks_L5 b x1 x2 E48 Q fu a1 a2 a3 → p5_liveWeeks_L5 b x1 x2 E482 Q2 fu a1 a2 a3 := by
  intro fu
  induction fu with
  | zero => intro a1 a2 a3 H; exact (show False from H).elim
  | succ fu ih =>
    intro a1 a2 a3
    unfold p5_liveWeeks_L5
    repeat' (first | (with_reducible exact ih _ _ _) | (with_reducible exact hE48 _ _ _) | (with_reducible exact hQ _ _) | (with_reducible refine m_p5_liveWeek (fun _ _ => ?_)) | (with_reducible refine m_p5_comeByDraw (fun _ _ => ?_)) | (with_reducible refine brM ?_ ?_) | (with_reducible refine rdM (fun _ => ?_)) | (with_reducible refine wrM (fun _ => ?_)) | (with_reducible refine pfM (fun _ => ?_)) | (with_reducible refine jnM ?_) | (with_reducible exact idM) | (with_reducible refine anM ?_ ?_) | (with_reducible refine imM ?_) | (with_reducible refine cpM (fun _ => ?_)) | (with_reducible refine rsM (fun _ => ?_)))
theorem m_p5_liveWeeks {b : Nat} {x1 : Int} {x2 : Int} {h : HP} {Q Q2 : Int → HP → Prop} (hQ : ∀ (y0 : Int) (y1 : HP), Q y0 y1 → Q2 y0 y1) : p5_liveWeeks b x1 x2 h Q → p5_liveWeeks b x1 x2 h Q2 := by
  unfold p5_liveWeeks
  repeat' (first | (with_reducible exact hQ _ _) | (with_reducible refine m_p5_liveWeeks_L5 (fun _ _ _ => ?_) (fun _ _ => ?_) _ _ _ _) | (with_reducible refine brM ?_ ?_) | (with_reducible refine rdM (fun _ => ?_)) | (with_reducible refine wrM (fun _ => ?_)) | (with_reducible refine pfM (fun _ => ?_)) | (with_reducible refine jnM ?_) | (with_reducible exact idM) | (with_reducible refine anM ?_ ?_) | (with_reducible refine imM ?_) | (with_reducible refine cpM (fun _ => ?_)) | (with_reducible refine rsM (fun _ => ?_)))
theorem m_p7_week {x1 : Int} {h : HP} {Q Q2 : Int → HP → Prop} (hQ : ∀ (y0 : Int) (y1 : HP), Q y0 y1 → Q2 y0 y1) : p7_week x1 h Q → p7_week x1 h Q2 := by
  unfold p7_week
  repeat' (first | (with_reducible exact hQ _ _) | (with_reducible refine m_p5_liveWeeks (fun _ _ => ?_)) | (with_reducible refine brM ?_ ?_) | (with_reducible refine rdM (fun _ => ?_)) | (with_reducible refine wrM (fun _ => ?_)) | (with_reducible refine pfM (fun _ => ?_)) | (with_reducible refine jnM ?_) | (with_reducible exact idM) | (with_reducible refine anM ?_ ?_) | (with_reducible refine imM ?_) | (with_reducible refine cpM (fun _ => ?_)) | (with_reducible refine rsM (fun _ => ?_)))
theorem m_p7_drift {x1 : Int} {h : HP} {Q Q2 : Int → HP → Prop} (hQ : ∀ (y0 : Int) (y1 : HP), Q y0 y1 → Q2 y0 y1) : p7_drift x1 h Q → p7_drift x1 h Q2 := by
  unfold p7_drift
  repeat' (first | (with_reducible exact hQ _ _) | (with_reducible refine m_p5_liveWeeks (fun _ _ => ?_)) | (with_reducible refine brM ?_ ?_) | (with_reducible refine rdM (fun _ => ?_)) | (with_reducible refine wrM (fun _ => ?_)) | (with_reducible refine pfM (fun _ => ?_)) | (with_reducible refine jnM ?_) | (with_reducible exact idM) | (with_reducible refine anM ?_ ?_) | (with_reducible refine imM ?_) | (with_reducible refine cpM (fun _ => ?_)) | (with_reducible refine rsM (fun _ => ?_)))
theorem m_p7_begin {h : HP} {Q Q2 : Int → HP → Prop} (hQ : ∀ (y0 : Int) (y1 : HP), Q y0 y1 → Q2 y0 y1) : p7_begin h Q → p7_begin h Q2 := by
  unfold p7_begin
  repeat' (first | (with_reducible exact hQ _ _) | (with_reducible refine m_p5_layOut (fun _ => ?_)) | (with_reducible refine brM ?_ ?_) | (with_reducible refine rdM (fun _ => ?_)) | (with_reducible refine wrM (fun _ => ?_)) | (with_reducible refine pfM (fun _ => ?_)) | (with_reducible refine jnM ?_) | (with_reducible exact idM) | (with_reducible refine anM ?_ ?_) | (with_reducible refine imM ?_) | (with_reducible refine cpM (fun _ => ?_)) | (with_reducible refine rsM (fun _ => ?_)))
theorem m_p7_gain {x1 : Int} {x2 : Int} {h : HP} {Q Q2 : Int → Prop} (hQ : ∀ (y0 : Int), Q y0 → Q2 y0) : p7_gain x1 x2 h Q → p7_gain x1 x2 h Q2 := by
  unfold p7_gain
  repeat' (first | (with_reducible exact hQ _) | (with_reducible refine m_p4_isHouse (fun _ => ?_)) | (with_reducible refine m_p5_isPart (fun _ => ?_)) | (with_reducible refine m_p5_gainOf (fun _ => ?_)) | (with_reducible refine brM ?_ ?_) | (with_reducible refine rdM (fun _ => ?_)) | (with_reducible refine wrM (fun _ => ?_)) | (with_reducible refine pfM (fun _ => ?_)) | (with_reducible refine jnM ?_) | (with_reducible exact idM) | (with_reducible refine anM ?_ ?_) | (with_reducible refine imM ?_) | (with_reducible refine cpM (fun _ => ?_)) | (with_reducible refine rsM (fun _ => ?_)))
theorem m_p5_copyFrom {b : Nat} {q : Nat} {h : HP} {Q Q2 : HP → Prop} (hQ : ∀ (y0 : HP), Q y0 → Q2 y0) : p5_copyFrom b q h Q → p5_copyFrom b q h Q2 := by
  unfold p5_copyFrom
  repeat' (first | (with_reducible exact hQ _) | (with_reducible refine brM ?_ ?_) | (with_reducible refine rdM (fun _ => ?_)) | (with_reducible refine wrM (fun _ => ?_)) | (with_reducible refine pfM (fun _ => ?_)) | (with_reducible refine jnM ?_) | (with_reducible exact idM) | (with_reducible refine anM ?_ ?_) | (with_reducible refine imM ?_) | (with_reducible refine cpM (fun _ => ?_)) | (with_reducible refine rsM (fun _ => ?_)))
theorem m_p7_tryWithout_L23 {Q Q2 : HP → Prop} (hQ : ∀ (y0 : HP), Q y0 → Q2 y0) : ∀ (fu : Nat) (a1 : HP) (a2 : Int), p7_tryWithout_L23 Q fu a1 a2 → p7_tryWithout_L23 Q2 fu a1 a2 := by
  intro fu
  induction fu with
  | zero => intro a1 a2 H; exact (show False from H).elim
  | succ fu ih =>
    intro a1 a2
    unfold p7_tryWithout_L23
    repeat' (first | (with_reducible exact ih _ _) | (with_reducible exact hQ _) | (with_reducible refine m_p5_wealthOf (fun _ => ?_)) | (with_reducible refine brM ?_ ?_) | (with_reducible refine rdM (fun _ => ?_)) | (with_reducible refine wrM (fun _ => ?_)) | (with_reducible refine pfM (fun _ => ?_)) | (with_reducible refine jnM ?_) | (with_reducible exact idM) | (with_reducible refine anM ?_ ?_) | (with_reducible refine imM ?_) | (with_reducible refine cpM (fun _ => ?_)) | (with_reducible refine rsM (fun _ => ?_)))
theorem m_p7_tryWithout {x1 : Int} {h : HP} {Q Q2 : HP → Prop} (hQ : ∀ (y0 : HP), Q y0 → Q2 y0) : p7_tryWithout x1 h Q → p7_tryWithout x1 h Q2 := by
  unfold p7_tryWithout
  repeat' (first | (with_reducible exact hQ _) | (with_reducible refine m_p5_copyFrom (fun _ => ?_)) | (with_reducible refine m_p5_liveWeeks (fun _ _ => ?_)) | (with_reducible refine m_p7_tryWithout_L23 (fun _ => ?_) _ _ _) | (with_reducible refine brM ?_ ?_) | (with_reducible refine rdM (fun _ => ?_)) | (with_reducible refine wrM (fun _ => ?_)) | (with_reducible refine pfM (fun _ => ?_)) | (with_reducible refine jnM ?_) | (with_reducible exact idM) | (with_reducible refine anM ?_ ?_) | (with_reducible refine imM ?_) | (with_reducible refine cpM (fun _ => ?_)) | (with_reducible refine rsM (fun _ => ?_)))
theorem m_p7_down_L101 {x3 : Int} {h : HP} {Q Q2 : Int → HP → Prop} (hQ : ∀ (y0 : Int) (y1 : HP), Q y0 y1 → Q2 y0 y1) : ∀ (fu : Nat) (a1 : Int) (a2 : Int), p7_down_L101 x3 h Q fu a1 a2 → p7_down_L101 x3 h Q2 fu a1 a2 := by
  intro fu
  induction fu with
  | zero => intro a1 a2 H; exact (show False from H).elim
  | succ fu ih =>
    intro a1 a2
    unfold p7_down_L101
    repeat' (first | (with_reducible exact ih _ _) | (with_reducible exact hQ _ _) | (with_reducible refine m_p5_wealthOf (fun _ => ?_)) | (with_reducible refine brM ?_ ?_) | (with_reducible refine rdM (fun _ => ?_)) | (with_reducible refine wrM (fun _ => ?_)) | (with_reducible refine pfM (fun _ => ?_)) | (with_reducible refine jnM ?_) | (with_reducible exact idM) | (with_reducible refine anM ?_ ?_) | (with_reducible refine imM ?_) | (with_reducible refine cpM (fun _ => ?_)) | (with_reducible refine rsM (fun _ => ?_)))
theorem m_p7_down {x1 : Int} {x2 : Int} {x3 : Int} {h : HP} {Q Q2 : Int → HP → Prop} (hQ : ∀ (y0 : Int) (y1 : HP), Q y0 y1 → Q2 y0 y1) : p7_down x1 x2 x3 h Q → p7_down x1 x2 x3 h Q2 := by
  unfold p7_down
  repeat' (first | (with_reducible exact hQ _ _) | (with_reducible refine m_p4_isSort (fun _ => ?_)) | (with_reducible refine m_p7_tryWithout (fun _ => ?_)) | (with_reducible refine m_p5_copyFrom (fun _ => ?_)) | (with_reducible refine m_p5_addPart (fun _ _ => ?_)) | (with_reducible refine m_p5_liveWeeks (fun _ _ => ?_)) | (with_reducible refine m_p7_down_L101 (fun _ _ => ?_) _ _ _) | (with_reducible refine m_p4_isHouse (fun _ => ?_)) | (with_reducible refine brM ?_ ?_) | (with_reducible refine rdM (fun _ => ?_)) | (with_reducible refine wrM (fun _ => ?_)) | (with_reducible refine pfM (fun _ => ?_)) | (with_reducible refine jnM ?_) | (with_reducible exact idM) | (with_reducible refine anM ?_ ?_) | (with_reducible refine imM ?_) | (with_reducible refine cpM (fun _ => ?_)) | (with_reducible refine rsM (fun _ => ?_)))
theorem m_p1_enqueue {x1 : Int} {x2 : Int} {h : HP} {Q Q2 : HP → Prop} (hQ : ∀ (y0 : HP), Q y0 → Q2 y0) : p1_enqueue x1 x2 h Q → p1_enqueue x1 x2 h Q2 := by
  unfold p1_enqueue
  repeat' (first | (with_reducible exact hQ _) | (with_reducible refine brM ?_ ?_) | (with_reducible refine rdM (fun _ => ?_)) | (with_reducible refine wrM (fun _ => ?_)) | (with_reducible refine pfM (fun _ => ?_)) | (with_reducible refine jnM ?_) | (with_reducible exact idM) | (with_reducible refine anM ?_ ?_) | (with_reducible refine imM ?_) | (with_reducible refine cpM (fun _ => ?_)) | (with_reducible refine rsM (fun _ => ?_)))
theorem m_p1_queueLying_L7 {Q Q2 : HP → Prop} (hQ : ∀ (y0 : HP), Q y0 → Q2 y0) : ∀ (fu : Nat) (a1 : HP) (a2 : Int), p1_queueLying_L7 Q fu a1 a2 → p1_queueLying_L7 Q2 fu a1 a2 := by
  intro fu
  induction fu with
  | zero => intro a1 a2 H; exact (show False from H).elim
  | succ fu ih =>
    intro a1 a2
    unfold p1_queueLying_L7
    repeat' (first | (with_reducible exact ih _ _) | (with_reducible exact hQ _) | (with_reducible refine m_p5_lies (fun _ => ?_)) | (with_reducible refine m_p1_enqueue (fun _ => ?_)) | (with_reducible refine brM ?_ ?_) | (with_reducible refine rdM (fun _ => ?_)) | (with_reducible refine wrM (fun _ => ?_)) | (with_reducible refine pfM (fun _ => ?_)) | (with_reducible refine jnM ?_) | (with_reducible exact idM) | (with_reducible refine anM ?_ ?_) | (with_reducible refine imM ?_) | (with_reducible refine cpM (fun _ => ?_)) | (with_reducible refine rsM (fun _ => ?_)))
theorem m_p1_queueLying {h : HP} {Q Q2 : HP → Prop} (hQ : ∀ (y0 : HP), Q y0 → Q2 y0) : p1_queueLying h Q → p1_queueLying h Q2 := by
  unfold p1_queueLying
  repeat' (first | (with_reducible exact hQ _) | (with_reducible refine m_p1_queueLying_L7 (fun _ => ?_) _ _ _) | (with_reducible refine brM ?_ ?_) | (with_reducible refine rdM (fun _ => ?_)) | (with_reducible refine wrM (fun _ => ?_)) | (with_reducible refine pfM (fun _ => ?_)) | (with_reducible refine jnM ?_) | (with_reducible exact idM) | (with_reducible refine anM ?_ ?_) | (with_reducible refine imM ?_) | (with_reducible refine cpM (fun _ => ?_)) | (with_reducible refine rsM (fun _ => ?_)))
theorem m_p5_betterBy {b : Nat} {x1 : Int} {x2 : Int} {x3 : Int} {h : HP} {Q Q2 : Int → Prop} (hQ : ∀ (y0 : Int), Q y0 → Q2 y0) : p5_betterBy b x1 x2 x3 h Q → p5_betterBy b x1 x2 x3 h Q2 := by
  unfold p5_betterBy
  repeat' (first | (with_reducible exact hQ _) | (with_reducible refine m_p5_gainOf (fun _ => ?_)) | (with_reducible refine m_p5_lossOf (fun _ => ?_)) | (with_reducible refine brM ?_ ?_) | (with_reducible refine rdM (fun _ => ?_)) | (with_reducible refine wrM (fun _ => ?_)) | (with_reducible refine pfM (fun _ => ?_)) | (with_reducible refine jnM ?_) | (with_reducible exact idM) | (with_reducible refine anM ?_ ?_) | (with_reducible refine imM ?_) | (with_reducible refine cpM (fun _ => ?_)) | (with_reducible refine rsM (fun _ => ?_)))
theorem m_p1_swapAgainst_L36 {x1 : Int} {x2 : Int} {x3 : Int} {Q Q2 : HP → Prop} (hQ : ∀ (y0 : HP), Q y0 → Q2 y0) : ∀ (fu : Nat) (a1 : HP) (a2 : Int), p1_swapAgainst_L36 x1 x2 x3 Q fu a1 a2 → p1_swapAgainst_L36 x1 x2 x3 Q2 fu a1 a2 := by
  intro fu
  induction fu with
  | zero => intro a1 a2 H; exact (show False from H).elim
  | succ fu ih =>
    intro a1 a2
    unfold p1_swapAgainst_L36
    repeat' (first | (with_reducible exact ih _ _) | (with_reducible exact hQ _) | (with_reducible refine m_p5_betterBy (fun _ => ?_)) | (with_reducible refine m_p1_enqueue (fun _ => ?_)) | (with_reducible refine brM ?_ ?_) | (with_reducible refine rdM (fun _ => ?_)) | (with_reducible refine wrM (fun _ => ?_)) | (with_reducible refine pfM (fun _ => ?_)) | (with_reducible refine jnM ?_) | (with_reducible exact idM) | (with_reducible refine anM ?_ ?_) | (with_reducible refine imM ?_) | (with_reducible refine cpM (fun _ => ?_)) | (with_reducible refine rsM (fun _ => ?_)))
theorem m_p1_swapAgainst {x1 : Int} {x2 : Int} {h : HP} {Q Q2 : HP → Prop} (hQ : ∀ (y0 : HP), Q y0 → Q2 y0) : p1_swapAgainst x1 x2 h Q → p1_swapAgainst x1 x2 h Q2 := by
  unfold p1_swapAgainst
  repeat' (first | (with_reducible exact hQ _) | (with_reducible refine m_p5_lies (fun _ => ?_)) | (with_reducible refine m_p1_swapAgainst_L36 (fun _ => ?_) _ _ _) | (with_reducible refine brM ?_ ?_) | (with_reducible refine rdM (fun _ => ?_)) | (with_reducible refine wrM (fun _ => ?_)) | (with_reducible refine pfM (fun _ => ?_)) | (with_reducible refine jnM ?_) | (with_reducible exact idM) | (with_reducible refine anM ?_ ?_) | (with_reducible refine imM ?_) | (with_reducible refine cpM (fun _ => ?_)) | (with_reducible refine rsM (fun _ => ?_)))
theorem m_p1_fewestFor_L6 {x1 : Int} {x2 : Int} {E56 E562 : HP → Int → Prop} {Q Q2 : Int → HP → Prop} (hE56 : ∀ (y0 : HP) (y1 : Int), E56 y0 y1 → E562 y0 y1) (hQ : ∀ (y0 : Int) (y1 : HP), Q y0 y1 → Q2 y0 y1) : ∀ (fu : Nat) (a1 : HP) (a2 : Int), p1_fewestFor_L6 x1 x2 E56 Q fu a1 a2 → p1_fewestFor_L6 x1 x2 E562 Q2 fu a1 a2 := by
  intro fu
  induction fu with
  | zero => intro a1 a2 H; exact (show False from H).elim
  | succ fu ih =>
    intro a1 a2
    unfold p1_fewestFor_L6
    repeat' (first | (with_reducible exact ih _ _) | (with_reducible exact hE56 _ _) | (with_reducible exact hQ _ _) | (with_reducible refine m_p1_swapAgainst (fun _ => ?_)) | (with_reducible refine brM ?_ ?_) | (with_reducible refine rdM (fun _ => ?_)) | (with_reducible refine wrM (fun _ => ?_)) | (with_reducible refine pfM (fun _ => ?_)) | (with_reducible refine jnM ?_) | (with_reducible exact idM) | (with_reducible refine anM ?_ ?_) | (with_reducible refine imM ?_) | (with_reducible refine cpM (fun _ => ?_)) | (with_reducible refine rsM (fun _ => ?_)))
theorem m_p1_fewestFor {x1 : Int} {x2 : Int} {h : HP} {Q Q2 : Int → HP → Prop} (hQ : ∀ (y0 : Int) (y1 : HP), Q y0 y1 → Q2 y0 y1) : p1_fewestFor x1 x2 h Q → p1_fewestFor x1 x2 h Q2 := by
  unfold p1_fewestFor
  repeat' (first | (with_reducible exact hQ _ _) | (with_reducible refine m_p1_queueLying (fun _ => ?_)) | (with_reducible refine m_p1_fewestFor_L6 (fun _ _ => ?_) (fun _ _ => ?_) _ _ _) | (with_reducible refine brM ?_ ?_) | (with_reducible refine rdM (fun _ => ?_)) | (with_reducible refine wrM (fun _ => ?_)) | (with_reducible refine pfM (fun _ => ?_)) | (with_reducible refine jnM ?_) | (with_reducible exact idM) | (with_reducible refine anM ?_ ?_) | (with_reducible refine imM ?_) | (with_reducible refine cpM (fun _ => ?_)) | (with_reducible refine rsM (fun _ => ?_)))
theorem m_p7_chain {x1 : Int} {x2 : Int} {h : HP} {Q Q2 : Int → HP → Prop} (hQ : ∀ (y0 : Int) (y1 : HP), Q y0 y1 → Q2 y0 y1) : p7_chain x1 x2 h Q → p7_chain x1 x2 h Q2 := by
  unfold p7_chain
  repeat' (first | (with_reducible exact hQ _ _) | (with_reducible refine m_p4_isHouse (fun _ => ?_)) | (with_reducible refine m_p4_isSort (fun _ => ?_)) | (with_reducible refine m_p1_fewestFor (fun _ _ => ?_)) | (with_reducible refine brM ?_ ?_) | (with_reducible refine rdM (fun _ => ?_)) | (with_reducible refine wrM (fun _ => ?_)) | (with_reducible refine pfM (fun _ => ?_)) | (with_reducible refine jnM ?_) | (with_reducible exact idM) | (with_reducible refine anM ?_ ?_) | (with_reducible refine imM ?_) | (with_reducible refine cpM (fun _ => ?_)) | (with_reducible refine rsM (fun _ => ?_)))
theorem m_p3_listChoices_L7 {x1 : Int} {E85 E852 : HP → Int → Prop} (hE85 : ∀ (y0 : HP) (y1 : Int), E85 y0 y1 → E852 y0 y1) : ∀ (fu : Nat) (a1 : HP) (a2 : Int) (a3 : Int) (a4 : Int), p3_listChoices_L7 x1 E85 fu a1 a2 a3 a4 → p3_listChoices_L7 x1 E852 fu a1 a2 a3 a4 := by
  intro fu
  induction fu with
  | zero => intro a1 a2 a3 a4 H; exact (show False from H).elim
  | succ fu ih =>
    intro a1 a2 a3 a4
    unfold p3_listChoices_L7
    repeat' (first | (with_reducible exact ih _ _ _ _) | (with_reducible exact hE85 _ _) | (with_reducible refine brM ?_ ?_) | (with_reducible refine rdM (fun _ => ?_)) | (with_reducible refine wrM (fun _ => ?_)) | (with_reducible refine pfM (fun _ => ?_)) | (with_reducible refine jnM ?_) | (with_reducible exact idM) | (with_reducible refine anM ?_ ?_) | (with_reducible refine imM ?_) | (with_reducible refine cpM (fun _ => ?_)) | (with_reducible refine rsM (fun _ => ?_)))
theorem m_p3_listChoices {x1 : Int} {h : HP} {Q Q2 : HP → Prop} (hQ : ∀ (y0 : HP), Q y0 → Q2 y0) : p3_listChoices x1 h Q → p3_listChoices x1 h Q2 := by
  unfold p3_listChoices
  repeat' (first | (with_reducible exact hQ _) | (with_reducible refine m_p3_listChoices_L7 (fun _ _ => ?_) _ _ _ _ _) | (with_reducible refine brM ?_ ?_) | (with_reducible refine rdM (fun _ => ?_)) | (with_reducible refine wrM (fun _ => ?_)) | (with_reducible refine pfM (fun _ => ?_)) | (with_reducible refine jnM ?_) | (with_reducible exact idM) | (with_reducible refine anM ?_ ?_) | (with_reducible refine imM ?_) | (with_reducible refine cpM (fun _ => ?_)) | (with_reducible refine rsM (fun _ => ?_)))
theorem m_p3_mostBetter_L19 {x1 : Int} {x2 : Int} {x4 : Int} {h : HP} {E79 E792 : Int → Prop} (hE79 : ∀ (y0 : Int), E79 y0 → E792 y0) : ∀ (fu : Nat) (a1 : Int) (a2 : Int), p3_mostBetter_L19 x1 x2 x4 h E79 fu a1 a2 → p3_mostBetter_L19 x1 x2 x4 h E792 fu a1 a2 := by
  intro fu
  induction fu with
  | zero => intro a1 a2 H; exact (show False from H).elim
  | succ fu ih =>
    intro a1 a2
    unfold p3_mostBetter_L19
    repeat' (first | (with_reducible exact ih _ _) | (with_reducible exact hE79 _) | (with_reducible refine m_p5_betterBy (fun _ => ?_)) | (with_reducible refine brM ?_ ?_) | (with_reducible refine rdM (fun _ => ?_)) | (with_reducible refine wrM (fun _ => ?_)) | (with_reducible refine pfM (fun _ => ?_)) | (with_reducible refine jnM ?_) | (with_reducible exact idM) | (with_reducible refine anM ?_ ?_) | (with_reducible refine imM ?_) | (with_reducible refine cpM (fun _ => ?_)) | (with_reducible refine rsM (fun _ => ?_)))
theorem m_p3_mostBetter_L5 {x1 : Int} {x2 : Int} {h : HP} {Q Q2 : Int → Prop} (hQ : ∀ (y0 : Int), Q y0 → Q2 y0) : ∀ (fu : Nat) (a1 : Int) (a2 : Int), p3_mostBetter_L5 x1 x2 h Q fu a1 a2 → p3_mostBetter_L5 x1 x2 h Q2 fu a1 a2 := by
  intro fu
  induction fu with
  | zero => intro a1 a2 H; exact (show False from H).elim
  | succ fu ih =>
    intro a1 a2
    unfold p3_mostBetter_L5
    repeat' (first | (with_reducible exact ih _ _) | (with_reducible exact hQ _) | (with_reducible refine m_p3_mostBetter_L19 (fun _ => ?_) _ _ _) | (with_reducible refine brM ?_ ?_) | (with_reducible refine rdM (fun _ => ?_)) | (with_reducible refine wrM (fun _ => ?_)) | (with_reducible refine pfM (fun _ => ?_)) | (with_reducible refine jnM ?_) | (with_reducible exact idM) | (with_reducible refine anM ?_ ?_) | (with_reducible refine imM ?_) | (with_reducible refine cpM (fun _ => ?_)) | (with_reducible refine rsM (fun _ => ?_)))
theorem m_p3_mostBetter {x1 : Int} {x2 : Int} {h : HP} {Q Q2 : Int → Prop} (hQ : ∀ (y0 : Int), Q y0 → Q2 y0) : p3_mostBetter x1 x2 h Q → p3_mostBetter x1 x2 h Q2 := by
  unfold p3_mostBetter
  repeat' (first | (with_reducible exact hQ _) | (with_reducible refine m_p3_mostBetter_L5 (fun _ => ?_) _ _ _) | (with_reducible refine brM ?_ ?_) | (with_reducible refine rdM (fun _ => ?_)) | (with_reducible refine wrM (fun _ => ?_)) | (with_reducible refine pfM (fun _ => ?_)) | (with_reducible refine jnM ?_) | (with_reducible exact idM) | (with_reducible refine anM ?_ ?_) | (with_reducible refine imM ?_) | (with_reducible refine cpM (fun _ => ?_)) | (with_reducible refine rsM (fun _ => ?_)))
theorem m_p3_hopeLostBy_L4 {x1 : Int} {h : HP} {Q Q2 : Int → Prop} (hQ : ∀ (y0 : Int), Q y0 → Q2 y0) : ∀ (fu : Nat) (a1 : Int) (a2 : Int), p3_hopeLostBy_L4 x1 h Q fu a1 a2 → p3_hopeLostBy_L4 x1 h Q2 fu a1 a2 := by
  intro fu
  induction fu with
  | zero => intro a1 a2 H; exact (show False from H).elim
  | succ fu ih =>
    intro a1 a2
    unfold p3_hopeLostBy_L4
    repeat' (first | (with_reducible exact ih _ _) | (with_reducible exact hQ _) | (with_reducible refine m_p5_betterBy (fun _ => ?_)) | (with_reducible refine brM ?_ ?_) | (with_reducible refine rdM (fun _ => ?_)) | (with_reducible refine wrM (fun _ => ?_)) | (with_reducible refine pfM (fun _ => ?_)) | (with_reducible refine jnM ?_) | (with_reducible exact idM) | (with_reducible refine anM ?_ ?_) | (with_reducible refine imM ?_) | (with_reducible refine cpM (fun _ => ?_)) | (with_reducible refine rsM (fun _ => ?_)))
theorem m_p3_hopeLostBy {x1 : Int} {h : HP} {Q Q2 : Int → Prop} (hQ : ∀ (y0 : Int), Q y0 → Q2 y0) : p3_hopeLostBy x1 h Q → p3_hopeLostBy x1 h Q2 := by
  unfold p3_hopeLostBy
  repeat' (first | (with_reducible exact hQ _) | (with_reducible refine m_p3_hopeLostBy_L4 (fun _ => ?_) _ _ _) | (with_reducible refine brM ?_ ?_) | (with_reducible refine rdM (fun _ => ?_)) | (with_reducible refine wrM (fun _ => ?_)) | (with_reducible refine pfM (fun _ => ?_)) | (with_reducible refine jnM ?_) | (with_reducible exact idM) | (with_reducible refine anM ?_ ?_) | (with_reducible refine imM ?_) | (with_reducible refine cpM (fun _ => ?_)) | (with_reducible refine rsM (fun _ => ?_)))
theorem m_p3_remember {x1 : Int} {h : HP} {Q Q2 : HP → Prop} (hQ : ∀ (y0 : HP), Q y0 → Q2 y0) : p3_remember x1 h Q → p3_remember x1 h Q2 := by
  unfold p3_remember
  repeat' (first | (with_reducible exact hQ _) | (with_reducible refine brM ?_ ?_) | (with_reducible refine rdM (fun _ => ?_)) | (with_reducible refine wrM (fun _ => ?_)) | (with_reducible refine pfM (fun _ => ?_)) | (with_reducible refine jnM ?_) | (with_reducible exact idM) | (with_reducible refine anM ?_ ?_) | (with_reducible refine imM ?_) | (with_reducible refine cpM (fun _ => ?_)) | (with_reducible refine rsM (fun _ => ?_)))
theorem m_p3_chooseThrown_L51 {R : Int → Int → HP → (HP → Prop) → Prop} {x1 : Int} {x2 : Int} {Q Q2 : HP → Prop} (hR : ∀ (z0 : Int) (z1 : Int) (z2 : HP) (U U2 : HP → Prop), (∀ (y0 : HP), U y0 → U2 y0) → R z0 z1 z2 U → R z0 z1 z2 U2) (hQ : ∀ (y0 : HP), Q y0 → Q2 y0) : ∀ (fu : Nat) (a1 : HP) (a2 : Int), p3_chooseThrown_L51 R x1 x2 Q fu a1 a2 → p3_chooseThrown_L51 R x1 x2 Q2 fu a1 a2 := by
  intro fu
  induction fu with
  | zero => intro a1 a2 H; exact (show False from H).elim
  | succ fu ih =>
    intro a1 a2
    unfold p3_chooseThrown_L51
    repeat' (first | (with_reducible exact ih _ _) | (with_reducible refine hR _ _ _ _ _ (fun _ => ?_)) | (with_reducible exact hQ _) | (with_reducible refine m_p3_hopeLostBy (fun _ => ?_)) | (with_reducible refine brM ?_ ?_) | (with_reducible refine rdM (fun _ => ?_)) | (with_reducible refine wrM (fun _ => ?_)) | (with_reducible refine pfM (fun _ => ?_)) | (with_reducible refine jnM ?_) | (with_reducible exact idM) | (with_reducible refine anM ?_ ?_) | (with_reducible refine imM ?_) | (with_reducible refine cpM (fun _ => ?_)) | (with_reducible refine rsM (fun _ => ?_)))
theorem m_p3_chooseThrown_B {R : Int → Int → HP → (HP → Prop) → Prop} {x1 : Int} {x2 : Int} {h : HP} {Q Q2 : HP → Prop} (hR : ∀ (z0 : Int) (z1 : Int) (z2 : HP) (U U2 : HP → Prop), (∀ (y0 : HP), U y0 → U2 y0) → R z0 z1 z2 U → R z0 z1 z2 U2) (hQ : ∀ (y0 : HP), Q y0 → Q2 y0) : p3_chooseThrown_B R x1 x2 h Q → p3_chooseThrown_B R x1 x2 h Q2 := by
  unfold p3_chooseThrown_B
  repeat' (first | (with_reducible refine hR _ _ _ _ _ (fun _ => ?_)) | (with_reducible exact hQ _) | (with_reducible refine m_p3_chooseThrown_L51 hR (fun _ => ?_) _ _ _) | (with_reducible refine m_p3_chooseThrown_L51 (m_p3_chooseThrown _) (fun _ => ?_) _ _ _) | (with_reducible refine m_p3_chooseThrown_L51 (m_p3_chooseGiver _) (fun _ => ?_) _ _ _) | (with_reducible refine m_p3_remember (fun _ => ?_)) | (with_reducible refine brM ?_ ?_) | (with_reducible refine rdM (fun _ => ?_)) | (with_reducible refine wrM (fun _ => ?_)) | (with_reducible refine pfM (fun _ => ?_)) | (with_reducible refine jnM ?_) | (with_reducible exact idM) | (with_reducible refine anM ?_ ?_) | (with_reducible refine imM ?_) | (with_reducible refine cpM (fun _ => ?_)) | (with_reducible refine rsM (fun _ => ?_)))
theorem m_p3_chooseThrown : ∀ (n : Nat) (z1 : Int) (z2 : Int) (z3 : HP) (U U2 : HP → Prop), (∀ (y0 : HP), U y0 → U2 y0) → p3_chooseThrown n z1 z2 z3 U → p3_chooseThrown n z1 z2 z3 U2 := by
  intro n
  induction n with
  | zero => intro z1 z2 z3 U U2 hU H; exact (show False from H).elim
  | succ n ih =>
    intro z1 z2 z3 U U2 hU
    show p3_chooseThrown_B (p3_chooseThrown n) z1 z2 z3 U → p3_chooseThrown_B (p3_chooseThrown n) z1 z2 z3 U2
    exact m_p3_chooseThrown_B ih hU
theorem m_p3_chooseGiver_L46 {R : Int → Int → Int → HP → (HP → Prop) → Prop} {x1 : Int} {x2 : Int} {x3 : Int} {Q Q2 : HP → Prop} (hR : ∀ (z0 : Int) (z1 : Int) (z2 : Int) (z3 : HP) (U U2 : HP → Prop), (∀ (y0 : HP), U y0 → U2 y0) → R z0 z1 z2 z3 U → R z0 z1 z2 z3 U2) (hQ : ∀ (y0 : HP), Q y0 → Q2 y0) : ∀ (fu : Nat) (a1 : HP) (a2 : Int), p3_chooseGiver_L46 R x1 x2 x3 Q fu a1 a2 → p3_chooseGiver_L46 R x1 x2 x3 Q2 fu a1 a2 := by
  intro fu
  induction fu with
  | zero => intro a1 a2 H; exact (show False from H).elim
  | succ fu ih =>
    intro a1 a2
    unfold p3_chooseGiver_L46
    repeat' (first | (with_reducible exact ih _ _) | (with_reducible refine hR _ _ _ _ _ _ (fun _ => ?_)) | (with_reducible exact hQ _) | (with_reducible refine brM ?_ ?_) | (with_reducible refine rdM (fun _ => ?_)) | (with_reducible refine wrM (fun _ => ?_)) | (with_reducible refine pfM (fun _ => ?_)) | (with_reducible refine jnM ?_) | (with_reducible exact idM) | (with_reducible refine anM ?_ ?_) | (with_reducible refine imM ?_) | (with_reducible refine cpM (fun _ => ?_)) | (with_reducible refine rsM (fun _ => ?_)))
theorem m_p3_chooseGiver_B {R : Int → Int → Int → HP → (HP → Prop) → Prop} {x1 : Int} {x2 : Int} {x3 : Int} {h : HP} {Q Q2 : HP → Prop} (hR : ∀ (z0 : Int) (z1 : Int) (z2 : Int) (z3 : HP) (U U2 : HP → Prop), (∀ (y0 : HP), U y0 → U2 y0) → R z0 z1 z2 z3 U → R z0 z1 z2 z3 U2) (hQ : ∀ (y0 : HP), Q y0 → Q2 y0) : p3_chooseGiver_B R x1 x2 x3 h Q → p3_chooseGiver_B R x1 x2 x3 h Q2 := by
  unfold p3_chooseGiver_B
  repeat' (first | (with_reducible refine hR _ _ _ _ _ _ (fun _ => ?_)) | (with_reducible exact hQ _) | (with_reducible refine m_p3_chooseGiver_L46 hR (fun _ => ?_) _ _ _) | (with_reducible refine m_p3_chooseGiver_L46 (m_p3_chooseThrown _) (fun _ => ?_) _ _ _) | (with_reducible refine m_p3_chooseGiver_L46 (m_p3_chooseGiver _) (fun _ => ?_) _ _ _) | (with_reducible refine m_p3_chooseThrown _ _ _ _ _ _ (fun _ => ?_)) | (with_reducible refine brM ?_ ?_) | (with_reducible refine rdM (fun _ => ?_)) | (with_reducible refine wrM (fun _ => ?_)) | (with_reducible refine pfM (fun _ => ?_)) | (with_reducible refine jnM ?_) | (with_reducible exact idM) | (with_reducible refine anM ?_ ?_) | (with_reducible refine imM ?_) | (with_reducible refine cpM (fun _ => ?_)) | (with_reducible refine rsM (fun _ => ?_)))
theorem m_p3_chooseGiver : ∀ (n : Nat) (z1 : Int) (z2 : Int) (z3 : Int) (z4 : HP) (U U2 : HP → Prop), (∀ (y0 : HP), U y0 → U2 y0) → p3_chooseGiver n z1 z2 z3 z4 U → p3_chooseGiver n z1 z2 z3 z4 U2 := by
  intro n
  induction n with
  | zero => intro z1 z2 z3 z4 U U2 hU H; exact (show False from H).elim
  | succ n ih =>
    intro z1 z2 z3 z4 U U2 hU
    show p3_chooseGiver_B (p3_chooseGiver n) z1 z2 z3 z4 U → p3_chooseGiver_B (p3_chooseGiver n) z1 z2 z3 z4 U2
    exact m_p3_chooseGiver_B ih hU
theorem m_p3_findBest_L21 {E54 E542 : HP → Prop} (hE54 : ∀ (y0 : HP), E54 y0 → E542 y0) : ∀ (fu : Nat) (a1 : HP) (a2 : Int), p3_findBest_L21 E54 fu a1 a2 → p3_findBest_L21 E542 fu a1 a2 := by
  intro fu
  induction fu with
  | zero => intro a1 a2 H; exact (show False from H).elim
  | succ fu ih =>
    intro a1 a2
    unfold p3_findBest_L21
    repeat' (first | (with_reducible exact ih _ _) | (with_reducible exact hE54 _) | (with_reducible refine m_p3_listChoices (fun _ => ?_)) | (with_reducible refine brM ?_ ?_) | (with_reducible refine rdM (fun _ => ?_)) | (with_reducible refine wrM (fun _ => ?_)) | (with_reducible refine pfM (fun _ => ?_)) | (with_reducible refine jnM ?_) | (with_reducible exact idM) | (with_reducible refine anM ?_ ?_) | (with_reducible refine imM ?_) | (with_reducible refine cpM (fun _ => ?_)) | (with_reducible refine rsM (fun _ => ?_)))
theorem m_p3_findBest_L66 {x1 : Int} {E96 E962 : HP → Prop} (hE96 : ∀ (y0 : HP), E96 y0 → E962 y0) : ∀ (fu : Nat) (a1 : HP) (a2 : Int), p3_findBest_L66 x1 E96 fu a1 a2 → p3_findBest_L66 x1 E962 fu a1 a2 := by
  intro fu
  induction fu with
  | zero => intro a1 a2 H; exact (show False from H).elim
  | succ fu ih =>
    intro a1 a2
    unfold p3_findBest_L66
    repeat' (first | (with_reducible exact ih _ _) | (with_reducible exact hE96 _) | (with_reducible refine m_p3_mostBetter (fun _ => ?_)) | (with_reducible refine brM ?_ ?_) | (with_reducible refine rdM (fun _ => ?_)) | (with_reducible refine wrM (fun _ => ?_)) | (with_reducible refine pfM (fun _ => ?_)) | (with_reducible refine jnM ?_) | (with_reducible exact idM) | (with_reducible refine anM ?_ ?_) | (with_reducible refine imM ?_) | (with_reducible refine cpM (fun _ => ?_)) | (with_reducible refine rsM (fun _ => ?_)))
theorem m_p3_findBest_L56 {E102 E1022 : HP → Prop} (hE102 : ∀ (y0 : HP), E102 y0 → E1022 y0) : ∀ (fu : Nat) (a1 : HP) (a2 : Int), p3_findBest_L56 E102 fu a1 a2 → p3_findBest_L56 E1022 fu a1 a2 := by
  intro fu
  induction fu with
  | zero => intro a1 a2 H; exact (show False from H).elim
  | succ fu ih =>
    intro a1 a2
    unfold p3_findBest_L56
    repeat' (first | (with_reducible exact ih _ _) | (with_reducible exact hE102 _) | (with_reducible refine m_p3_findBest_L66 (fun _ => ?_) _ _ _) | (with_reducible refine brM ?_ ?_) | (with_reducible refine rdM (fun _ => ?_)) | (with_reducible refine wrM (fun _ => ?_)) | (with_reducible refine pfM (fun _ => ?_)) | (with_reducible refine jnM ?_) | (with_reducible exact idM) | (with_reducible refine anM ?_ ?_) | (with_reducible refine imM ?_) | (with_reducible refine cpM (fun _ => ?_)) | (with_reducible refine rsM (fun _ => ?_)))
theorem m_p3_findBest {h : HP} {Q Q2 : HP → Prop} (hQ : ∀ (y0 : HP), Q y0 → Q2 y0) : p3_findBest h Q → p3_findBest h Q2 := by
  unfold p3_findBest
  repeat' (first | (with_reducible exact hQ _) | (with_reducible refine m_p3_findBest_L21 (fun _ => ?_) _ _ _) | (with_reducible refine m_p3_findBest_L56 (fun _ => ?_) _ _ _) | (with_reducible refine m_p3_chooseGiver _ _ _ _ _ _ _ (fun _ => ?_)) | (with_reducible refine brM ?_ ?_) | (with_reducible refine rdM (fun _ => ?_)) | (with_reducible refine wrM (fun _ => ?_)) | (with_reducible refine pfM (fun _ => ?_)) | (with_reducible refine jnM ?_) | (with_reducible exact idM) | (with_reducible refine anM ?_ ?_) | (with_reducible refine imM ?_) | (with_reducible refine cpM (fun _ => ?_)) | (with_reducible refine rsM (fun _ => ?_)))
theorem m_p3_partTakenBy {x1 : Int} {h : HP} {Q Q2 : Int → Prop} (hQ : ∀ (y0 : Int), Q y0 → Q2 y0) : p3_partTakenBy x1 h Q → p3_partTakenBy x1 h Q2 := by
  unfold p3_partTakenBy
  repeat' (first | (with_reducible exact hQ _) | (with_reducible refine brM ?_ ?_) | (with_reducible refine rdM (fun _ => ?_)) | (with_reducible refine wrM (fun _ => ?_)) | (with_reducible refine pfM (fun _ => ?_)) | (with_reducible refine jnM ?_) | (with_reducible exact idM) | (with_reducible refine anM ?_ ?_) | (with_reducible refine imM ?_) | (with_reducible refine cpM (fun _ => ?_)) | (with_reducible refine rsM (fun _ => ?_)))
theorem m_p7_rings {x1 : Int} {x2 : Int} {h : HP} {Q Q2 : Int → HP → Prop} (hQ : ∀ (y0 : Int) (y1 : HP), Q y0 y1 → Q2 y0 y1) : p7_rings x1 x2 h Q → p7_rings x1 x2 h Q2 := by
  unfold p7_rings
  repeat' (first | (with_reducible exact hQ _ _) | (with_reducible refine m_p3_findBest (fun _ => ?_)) | (with_reducible refine m_p3_partTakenBy (fun _ => ?_)) | (with_reducible refine m_p4_isHouse (fun _ => ?_)) | (with_reducible refine brM ?_ ?_) | (with_reducible refine rdM (fun _ => ?_)) | (with_reducible refine wrM (fun _ => ?_)) | (with_reducible refine pfM (fun _ => ?_)) | (with_reducible refine jnM ?_) | (with_reducible exact idM) | (with_reducible refine anM ?_ ?_) | (with_reducible refine imM ?_) | (with_reducible refine cpM (fun _ => ?_)) | (with_reducible refine rsM (fun _ => ?_)))
theorem m_p4_stillMissing {x1 : Int} {h : HP} {Q Q2 : Int → Prop} (hQ : ∀ (y0 : Int), Q y0 → Q2 y0) : p4_stillMissing x1 h Q → p4_stillMissing x1 h Q2 := by
  unfold p4_stillMissing
  repeat' (first | (with_reducible exact hQ _) | (with_reducible refine brM ?_ ?_) | (with_reducible refine rdM (fun _ => ?_)) | (with_reducible refine wrM (fun _ => ?_)) | (with_reducible refine pfM (fun _ => ?_)) | (with_reducible refine jnM ?_) | (with_reducible exact idM) | (with_reducible refine anM ?_ ?_) | (with_reducible refine imM ?_) | (with_reducible refine cpM (fun _ => ?_)) | (with_reducible refine rsM (fun _ => ?_)))
theorem m_p7_odds_L34 {x2 : Int} {h : HP} {Q Q2 : Int → Prop} (hQ : ∀ (y0 : Int), Q y0 → Q2 y0) : ∀ (fu : Nat) (a1 : Int) (a2 : Int), p7_odds_L34 x2 h Q fu a1 a2 → p7_odds_L34 x2 h Q2 fu a1 a2 := by
  intro fu
  induction fu with
  | zero => intro a1 a2 H; exact (show False from H).elim
  | succ fu ih =>
    intro a1 a2
    unfold p7_odds_L34
    repeat' (first | (with_reducible exact ih _ _) | (with_reducible exact hQ _) | (with_reducible refine m_p4_stillMissing (fun _ => ?_)) | (with_reducible refine brM ?_ ?_) | (with_reducible refine rdM (fun _ => ?_)) | (with_reducible refine wrM (fun _ => ?_)) | (with_reducible refine pfM (fun _ => ?_)) | (with_reducible refine jnM ?_) | (with_reducible exact idM) | (with_reducible refine anM ?_ ?_) | (with_reducible refine imM ?_) | (with_reducible refine cpM (fun _ => ?_)) | (with_reducible refine rsM (fun _ => ?_)))
theorem m_p7_odds {x1 : Int} {x2 : Int} {h : HP} {Q Q2 : Int → Prop} (hQ : ∀ (y0 : Int), Q y0 → Q2 y0) : p7_odds x1 x2 h Q → p7_odds x1 x2 h Q2 := by
  unfold p7_odds
  repeat' (first | (with_reducible exact hQ _) | (with_reducible refine m_p4_isSort (fun _ => ?_)) | (with_reducible refine m_p7_odds_L34 (fun _ => ?_) _ _ _) | (with_reducible refine brM ?_ ?_) | (with_reducible refine rdM (fun _ => ?_)) | (with_reducible refine wrM (fun _ => ?_)) | (with_reducible refine pfM (fun _ => ?_)) | (with_reducible refine jnM ?_) | (with_reducible exact idM) | (with_reducible refine anM ?_ ?_) | (with_reducible refine imM ?_) | (with_reducible refine cpM (fun _ => ?_)) | (with_reducible refine rsM (fun _ => ?_)))
theorem m_p5_greatestGain {b : Nat} {x1 : Int} {h : HP} {Q Q2 : Int → Prop} (hQ : ∀ (y0 : Int), Q y0 → Q2 y0) : p5_greatestGain b x1 h Q → p5_greatestGain b x1 h Q2 := by
  unfold p5_greatestGain
  repeat' (first | (with_reducible exact hQ _) | (with_reducible refine m_p5_partToTake (fun _ => ?_)) | (with_reducible refine m_p5_gainOf (fun _ => ?_)) | (with_reducible refine brM ?_ ?_) | (with_reducible refine rdM (fun _ => ?_)) | (with_reducible refine wrM (fun _ => ?_)) | (with_reducible refine pfM (fun _ => ?_)) | (with_reducible refine jnM ?_) | (with_reducible exact idM) | (with_reducible refine anM ?_ ?_) | (with_reducible refine imM ?_) | (with_reducible refine cpM (fun _ => ?_)) | (with_reducible refine rsM (fun _ => ?_)))
theorem m_p7_waits_L72 {x3 : Int} {x4 : Int} {h : HP} {Q Q2 : Int → Prop} (hQ : ∀ (y0 : Int), Q y0 → Q2 y0) : ∀ (fu : Nat) (a1 : Int) (a2 : Int) (a3 : Int) (a4 : Int), p7_waits_L72 x3 x4 h Q fu a1 a2 a3 a4 → p7_waits_L72 x3 x4 h Q2 fu a1 a2 a3 a4 := by
  intro fu
  induction fu with
  | zero => intro a1 a2 a3 a4 H; exact (show False from H).elim
  | succ fu ih =>
    intro a1 a2 a3 a4
    unfold p7_waits_L72
    repeat' (first | (with_reducible exact ih _ _ _ _) | (with_reducible exact hQ _) | (with_reducible refine m_p4_stillMissing (fun _ => ?_)) | (with_reducible refine brM ?_ ?_) | (with_reducible refine rdM (fun _ => ?_)) | (with_reducible refine wrM (fun _ => ?_)) | (with_reducible refine pfM (fun _ => ?_)) | (with_reducible refine jnM ?_) | (with_reducible exact idM) | (with_reducible refine anM ?_ ?_) | (with_reducible refine imM ?_) | (with_reducible refine cpM (fun _ => ?_)) | (with_reducible refine rsM (fun _ => ?_)))
theorem m_p7_waits {x1 : Int} {x2 : Int} {x3 : Int} {h : HP} {Q Q2 : Int → Prop} (hQ : ∀ (y0 : Int), Q y0 → Q2 y0) : p7_waits x1 x2 x3 h Q → p7_waits x1 x2 x3 h Q2 := by
  unfold p7_waits
  repeat' (first | (with_reducible exact hQ _) | (with_reducible refine m_p4_isHouse (fun _ => ?_)) | (with_reducible refine m_p4_isSort (fun _ => ?_)) | (with_reducible refine m_p5_gainOf (fun _ => ?_)) | (with_reducible refine m_p5_greatestGain (fun _ => ?_)) | (with_reducible refine m_p7_waits_L72 (fun _ => ?_) _ _ _ _ _) | (with_reducible refine brM ?_ ?_) | (with_reducible refine rdM (fun _ => ?_)) | (with_reducible refine wrM (fun _ => ?_)) | (with_reducible refine pfM (fun _ => ?_)) | (with_reducible refine jnM ?_) | (with_reducible exact idM) | (with_reducible refine anM ?_ ?_) | (with_reducible refine imM ?_) | (with_reducible refine cpM (fun _ => ?_)) | (with_reducible refine rsM (fun _ => ?_)))
theorem m_p6_setUp_L17 {x3 : Int} {E74 E742 : HP → Prop} (hE74 : ∀ (y0 : HP), E74 y0 → E742 y0) : ∀ (fu : Nat) (a1 : HP) (a2 : Int), p6_setUp_L17 x3 E74 fu a1 a2 → p6_setUp_L17 x3 E742 fu a1 a2 := by
  intro fu
  induction fu with
  | zero => intro a1 a2 H; exact (show False from H).elim
  | succ fu ih =>
    intro a1 a2
    unfold p6_setUp_L17
    repeat' (first | (with_reducible exact ih _ _) | (with_reducible exact hE74 _) | (with_reducible refine m_p5_sortsHad (fun _ => ?_)) | (with_reducible refine brM ?_ ?_) | (with_reducible refine rdM (fun _ => ?_)) | (with_reducible refine wrM (fun _ => ?_)) | (with_reducible refine pfM (fun _ => ?_)) | (with_reducible refine jnM ?_) | (with_reducible exact idM) | (with_reducible refine anM ?_ ?_) | (with_reducible refine imM ?_) | (with_reducible refine cpM (fun _ => ?_)) | (with_reducible refine rsM (fun _ => ?_)))
theorem m_p6_setUp_L88 {x3 : Int} {Q Q2 : HP → Prop} (hQ : ∀ (y0 : HP), Q y0 → Q2 y0) : ∀ (fu : Nat) (a1 : HP) (a2 : Int) (a3 : Int), p6_setUp_L88 x3 Q fu a1 a2 a3 → p6_setUp_L88 x3 Q2 fu a1 a2 a3 := by
  intro fu
  induction fu with
  | zero => intro a1 a2 a3 H; exact (show False from H).elim
  | succ fu ih =>
    intro a1 a2 a3
    unfold p6_setUp_L88
    repeat' (first | (with_reducible exact ih _ _ _) | (with_reducible exact hQ _) | (with_reducible refine m_p5_lies (fun _ => ?_)) | (with_reducible refine brM ?_ ?_) | (with_reducible refine rdM (fun _ => ?_)) | (with_reducible refine wrM (fun _ => ?_)) | (with_reducible refine pfM (fun _ => ?_)) | (with_reducible refine jnM ?_) | (with_reducible exact idM) | (with_reducible refine anM ?_ ?_) | (with_reducible refine imM ?_) | (with_reducible refine cpM (fun _ => ?_)) | (with_reducible refine rsM (fun _ => ?_)))
theorem m_p6_setUp {x1 : Int} {x2 : Int} {x3 : Int} {h : HP} {Q Q2 : HP → Prop} (hQ : ∀ (y0 : HP), Q y0 → Q2 y0) : p6_setUp x1 x2 x3 h Q → p6_setUp x1 x2 x3 h Q2 := by
  unfold p6_setUp
  repeat' (first | (with_reducible exact hQ _) | (with_reducible refine m_p6_setUp_L17 (fun _ => ?_) _ _ _) | (with_reducible refine m_pJ_fill (fun _ => ?_)) | (with_reducible refine m_p6_setUp_L88 (fun _ => ?_) _ _ _ _) | (with_reducible refine brM ?_ ?_) | (with_reducible refine rdM (fun _ => ?_)) | (with_reducible refine wrM (fun _ => ?_)) | (with_reducible refine pfM (fun _ => ?_)) | (with_reducible refine jnM ?_) | (with_reducible exact idM) | (with_reducible refine anM ?_ ?_) | (with_reducible refine imM ?_) | (with_reducible refine cpM (fun _ => ?_)) | (with_reducible refine rsM (fun _ => ?_)))
theorem m_p6_valueOfTaking {R : Int → Int → HP → (Int → HP → Prop) → Prop} {x1 : Int} {x2 : Int} {x3 : Int} {h : HP} {Q Q2 : Int → HP → Prop} (hR : ∀ (z0 : Int) (z1 : Int) (z2 : HP) (U U2 : Int → HP → Prop), (∀ (y0 : Int) (y1 : HP), U y0 y1 → U2 y0 y1) → R z0 z1 z2 U → R z0 z1 z2 U2) (hQ : ∀ (y0 : Int) (y1 : HP), Q y0 y1 → Q2 y0 y1) : p6_valueOfTaking R x1 x2 x3 h Q → p6_valueOfTaking R x1 x2 x3 h Q2 := by
  unfold p6_valueOfTaking
  repeat' (first | (with_reducible refine hR _ _ _ _ _ (fun _ _ => ?_)) | (with_reducible exact hQ _ _) | (with_reducible refine m_p4_worthOf (fun _ => ?_)) | (with_reducible refine brM ?_ ?_) | (with_reducible refine rdM (fun _ => ?_)) | (with_reducible refine wrM (fun _ => ?_)) | (with_reducible refine pfM (fun _ => ?_)) | (with_reducible refine jnM ?_) | (with_reducible exact idM) | (with_reducible refine anM ?_ ?_) | (with_reducible refine imM ?_) | (with_reducible refine cpM (fun _ => ?_)) | (with_reducible refine rsM (fun _ => ?_)))
theorem m_p6_bestOf_L21 {R : Int → Int → HP → (Int → HP → Prop) → Prop} {x1 : Int} {x2 : Int} {Q Q2 : Int → HP → Prop} (hR : ∀ (z0 : Int) (z1 : Int) (z2 : HP) (U U2 : Int → HP → Prop), (∀ (y0 : Int) (y1 : HP), U y0 y1 → U2 y0 y1) → R z0 z1 z2 U → R z0 z1 z2 U2) (hQ : ∀ (y0 : Int) (y1 : HP), Q y0 y1 → Q2 y0 y1) : ∀ (fu : Nat) (a1 : HP) (a2 : Int) (a3 : Int), p6_bestOf_L21 R x1 x2 Q fu a1 a2 a3 → p6_bestOf_L21 R x1 x2 Q2 fu a1 a2 a3 := by
  intro fu
  induction fu with
  | zero => intro a1 a2 a3 H; exact (show False from H).elim
  | succ fu ih =>
    intro a1 a2 a3
    unfold p6_bestOf_L21
    repeat' (first | (with_reducible exact ih _ _ _) | (with_reducible refine hR _ _ _ _ _ (fun _ _ => ?_)) | (with_reducible exact hQ _ _) | (with_reducible refine m_p6_valueOfTaking hR (fun _ _ => ?_)) | (with_reducible refine m_p6_valueOfTaking (m_p6_bestOf _) (fun _ _ => ?_)) | (with_reducible refine brM ?_ ?_) | (with_reducible refine rdM (fun _ => ?_)) | (with_reducible refine wrM (fun _ => ?_)) | (with_reducible refine pfM (fun _ => ?_)) | (with_reducible refine jnM ?_) | (with_reducible exact idM) | (with_reducible refine anM ?_ ?_) | (with_reducible refine imM ?_) | (with_reducible refine cpM (fun _ => ?_)) | (with_reducible refine rsM (fun _ => ?_)))
theorem m_p6_bestOf_B {R : Int → Int → HP → (Int → HP → Prop) → Prop} {x1 : Int} {x2 : Int} {h : HP} {Q Q2 : Int → HP → Prop} (hR : ∀ (z0 : Int) (z1 : Int) (z2 : HP) (U U2 : Int → HP → Prop), (∀ (y0 : Int) (y1 : HP), U y0 y1 → U2 y0 y1) → R z0 z1 z2 U → R z0 z1 z2 U2) (hQ : ∀ (y0 : Int) (y1 : HP), Q y0 y1 → Q2 y0 y1) : p6_bestOf_B R x1 x2 h Q → p6_bestOf_B R x1 x2 h Q2 := by
  unfold p6_bestOf_B
  repeat' (first | (with_reducible refine hR _ _ _ _ _ (fun _ _ => ?_)) | (with_reducible exact hQ _ _) | (with_reducible refine m_p6_bestOf_L21 hR (fun _ _ => ?_) _ _ _ _) | (with_reducible refine m_p6_bestOf_L21 (m_p6_bestOf _) (fun _ _ => ?_) _ _ _ _) | (with_reducible refine brM ?_ ?_) | (with_reducible refine rdM (fun _ => ?_)) | (with_reducible refine wrM (fun _ => ?_)) | (with_reducible refine pfM (fun _ => ?_)) | (with_reducible refine jnM ?_) | (with_reducible exact idM) | (with_reducible refine anM ?_ ?_) | (with_reducible refine imM ?_) | (with_reducible refine cpM (fun _ => ?_)) | (with_reducible refine rsM (fun _ => ?_)))
theorem m_p6_bestOf : ∀ (n : Nat) (z1 : Int) (z2 : Int) (z3 : HP) (U U2 : Int → HP → Prop), (∀ (y0 : Int) (y1 : HP), U y0 y1 → U2 y0 y1) → p6_bestOf n z1 z2 z3 U → p6_bestOf n z1 z2 z3 U2 := by
  intro n
  induction n with
  | zero => intro z1 z2 z3 U U2 hU H; exact (show False from H).elim
  | succ n ih =>
    intro z1 z2 z3 U U2 hU
    show p6_bestOf_B (p6_bestOf n) z1 z2 z3 U → p6_bestOf_B (p6_bestOf n) z1 z2 z3 U2
    exact m_p6_bestOf_B ih hU
theorem m_p6_playOut_L52 {x1 : Int} {x2 : Int} {Q Q2 : Int → HP → Prop} (hQ : ∀ (y0 : Int) (y1 : HP), Q y0 y1 → Q2 y0 y1) : ∀ (fu : Nat) (a1 : HP) (a2 : Int) (a3 : Int), p6_playOut_L52 x1 x2 Q fu a1 a2 a3 → p6_playOut_L52 x1 x2 Q2 fu a1 a2 a3 := by
  intro fu
  induction fu with
  | zero => intro a1 a2 a3 H; exact (show False from H).elim
  | succ fu ih =>
    intro a1 a2 a3
    unfold p6_playOut_L52
    repeat' (first | (with_reducible exact ih _ _ _) | (with_reducible exact hQ _ _) | (with_reducible refine m_p6_valueOfTaking hR (fun _ _ => ?_)) | (with_reducible refine m_p6_valueOfTaking (m_p6_bestOf _) (fun _ _ => ?_)) | (with_reducible refine m_p6_bestOf _ _ _ _ _ _ (fun _ _ => ?_)) | (with_reducible refine brM ?_ ?_) | (with_reducible refine rdM (fun _ => ?_)) | (with_reducible refine wrM (fun _ => ?_)) | (with_reducible refine pfM (fun _ => ?_)) | (with_reducible refine jnM ?_) | (with_reducible exact idM) | (with_reducible refine anM ?_ ?_) | (with_reducible refine imM ?_) | (with_reducible refine cpM (fun _ => ?_)) | (with_reducible refine rsM (fun _ => ?_)))
theorem m_p6_playOut {x1 : Int} {h : HP} {Q Q2 : Int → HP → Prop} (hQ : ∀ (y0 : Int) (y1 : HP), Q y0 y1 → Q2 y0 y1) : p6_playOut x1 h Q → p6_playOut x1 h Q2 := by
  unfold p6_playOut
  repeat' (first | (with_reducible exact hQ _ _) | (with_reducible refine m_p5_wealthOf (fun _ => ?_)) | (with_reducible refine m_p6_bestOf _ _ _ _ _ _ (fun _ _ => ?_)) | (with_reducible refine m_p6_playOut_L52 (fun _ _ => ?_) _ _ _ _) | (with_reducible refine brM ?_ ?_) | (with_reducible refine rdM (fun _ => ?_)) | (with_reducible refine wrM (fun _ => ?_)) | (with_reducible refine pfM (fun _ => ?_)) | (with_reducible refine jnM ?_) | (with_reducible exact idM) | (with_reducible refine anM ?_ ?_) | (with_reducible refine imM ?_) | (with_reducible refine cpM (fun _ => ?_)) | (with_reducible refine rsM (fun _ => ?_)))
theorem m_p7_turnsAt {x1 : Int} {x2 : Int} {x3 : Int} {x4 : Int} {x5 : Int} {h : HP} {Q Q2 : Int → HP → Prop} (hQ : ∀ (y0 : Int) (y1 : HP), Q y0 y1 → Q2 y0 y1) : p7_turnsAt x1 x2 x3 x4 x5 h Q → p7_turnsAt x1 x2 x3 x4 x5 h Q2 := by
  unfold p7_turnsAt
  repeat' (first | (with_reducible exact hQ _ _) | (with_reducible refine m_p4_isHouse (fun _ => ?_)) | (with_reducible refine m_p6_setUp (fun _ => ?_)) | (with_reducible refine m_p6_playOut (fun _ _ => ?_)) | (with_reducible refine brM ?_ ?_) | (with_reducible refine rdM (fun _ => ?_)) | (with_reducible refine wrM (fun _ => ?_)) | (with_reducible refine pfM (fun _ => ?_)) | (with_reducible refine jnM ?_) | (with_reducible exact idM) | (with_reducible refine anM ?_ ?_) | (with_reducible refine imM ?_) | (with_reducible refine cpM (fun _ => ?_)) | (with_reducible refine rsM (fun _ => ?_)))
theorem m_p0_enter {x1 : Int} {x2 : Int} {x3 : Int} {h : HP} {Q Q2 : Int → HP → Prop} (hQ : ∀ (y0 : Int) (y1 : HP), Q y0 y1 → Q2 y0 y1) : p0_enter x1 x2 x3 h Q → p0_enter x1 x2 x3 h Q2 := by
  unfold p0_enter
  repeat' (first | (with_reducible exact hQ _ _) | (with_reducible refine brM ?_ ?_) | (with_reducible refine rdM (fun _ => ?_)) | (with_reducible refine wrM (fun _ => ?_)) | (with_reducible refine pfM (fun _ => ?_)) | (with_reducible refine jnM ?_) | (with_reducible exact idM) | (with_reducible refine anM ?_ ?_) | (with_reducible refine imM ?_) | (with_reducible refine cpM (fun _ => ?_)) | (with_reducible refine rsM (fun _ => ?_)))
theorem m_p7_write {x1 : Int} {x2 : Int} {x3 : Int} {h : HP} {Q Q2 : Int → HP → Prop} (hQ : ∀ (y0 : Int) (y1 : HP), Q y0 y1 → Q2 y0 y1) : p7_write x1 x2 x3 h Q → p7_write x1 x2 x3 h Q2 := by
  unfold p7_write
  repeat' (first | (with_reducible exact hQ _ _) | (with_reducible refine m_p4_isHouse (fun _ => ?_)) | (with_reducible refine m_p5_isPart (fun _ => ?_)) | (with_reducible refine m_p0_enter (fun _ _ => ?_)) | (with_reducible refine brM ?_ ?_) | (with_reducible refine rdM (fun _ => ?_)) | (with_reducible refine wrM (fun _ => ?_)) | (with_reducible refine pfM (fun _ => ?_)) | (with_reducible refine jnM ?_) | (with_reducible exact idM) | (with_reducible refine anM ?_ ?_) | (with_reducible refine imM ?_) | (with_reducible refine cpM (fun _ => ?_)) | (with_reducible refine rsM (fun _ => ?_)))
theorem m_p7_tear {h : HP} {Q Q2 : Int → HP → Prop} (hQ : ∀ (y0 : Int) (y1 : HP), Q y0 y1 → Q2 y0 y1) : p7_tear h Q → p7_tear h Q2 := by
  unfold p7_tear
  repeat' (first | (with_reducible exact hQ _ _) | (with_reducible refine brM ?_ ?_) | (with_reducible refine rdM (fun _ => ?_)) | (with_reducible refine wrM (fun _ => ?_)) | (with_reducible refine pfM (fun _ => ?_)) | (with_reducible refine jnM ?_) | (with_reducible exact idM) | (with_reducible refine anM ?_ ?_) | (with_reducible refine imM ?_) | (with_reducible refine cpM (fun _ => ?_)) | (with_reducible refine rsM (fun _ => ?_)))
theorem m_p0_firstWrong_L2 {Q Q2 : Int → HP → Prop} (hQ : ∀ (y0 : Int) (y1 : HP), Q y0 y1 → Q2 y0 y1) : ∀ (fu : Nat) (a1 : HP) (a2 : Int), p0_firstWrong_L2 Q fu a1 a2 → p0_firstWrong_L2 Q2 fu a1 a2 := by
  intro fu
  induction fu with
  | zero => intro a1 a2 H; exact (show False from H).elim
  | succ fu ih =>
    intro a1 a2
    unfold p0_firstWrong_L2
    repeat' (first | (with_reducible exact ih _ _) | (with_reducible exact hQ _ _) | (with_reducible refine m_p5_isPart (fun _ => ?_)) | (with_reducible refine m_p5_throwOut (fun _ _ => ?_)) | (with_reducible refine m_p5_carryHome (fun _ _ => ?_)) | (with_reducible refine brM ?_ ?_) | (with_reducible refine rdM (fun _ => ?_)) | (with_reducible refine wrM (fun _ => ?_)) | (with_reducible refine pfM (fun _ => ?_)) | (with_reducible refine jnM ?_) | (with_reducible exact idM) | (with_reducible refine anM ?_ ?_) | (with_reducible refine imM ?_) | (with_reducible refine cpM (fun _ => ?_)) | (with_reducible refine rsM (fun _ => ?_)))
theorem m_p0_firstWrong {h : HP} {Q Q2 : Int → HP → Prop} (hQ : ∀ (y0 : Int) (y1 : HP), Q y0 y1 → Q2 y0 y1) : p0_firstWrong h Q → p0_firstWrong h Q2 := by
  unfold p0_firstWrong
  repeat' (first | (with_reducible exact hQ _ _) | (with_reducible refine m_p0_firstWrong_L2 (fun _ _ => ?_) _ _ _) | (with_reducible refine brM ?_ ?_) | (with_reducible refine rdM (fun _ => ?_)) | (with_reducible refine wrM (fun _ => ?_)) | (with_reducible refine pfM (fun _ => ?_)) | (with_reducible refine jnM ?_) | (with_reducible exact idM) | (with_reducible refine anM ?_ ?_) | (with_reducible refine imM ?_) | (with_reducible refine cpM (fun _ => ?_)) | (with_reducible refine rsM (fun _ => ?_)))
theorem m_p7_judge {h : HP} {Q Q2 : Int → HP → Prop} (hQ : ∀ (y0 : Int) (y1 : HP), Q y0 y1 → Q2 y0 y1) : p7_judge h Q → p7_judge h Q2 := by
  unfold p7_judge
  repeat' (first | (with_reducible exact hQ _ _) | (with_reducible refine m_p5_copyFrom (fun _ => ?_)) | (with_reducible refine m_p0_firstWrong (fun _ _ => ?_)) | (with_reducible refine brM ?_ ?_) | (with_reducible refine rdM (fun _ => ?_)) | (with_reducible refine wrM (fun _ => ?_)) | (with_reducible refine pfM (fun _ => ?_)) | (with_reducible refine jnM ?_) | (with_reducible exact idM) | (with_reducible refine anM ?_ ?_) | (with_reducible refine imM ?_) | (with_reducible refine cpM (fun _ => ?_)) | (with_reducible refine rsM (fun _ => ?_)))
theorem m_p7_seed {x1 : Int} {h : HP} {Q Q2 : Int → HP → Prop} (hQ : ∀ (y0 : Int) (y1 : HP), Q y0 y1 → Q2 y0 y1) : p7_seed x1 h Q → p7_seed x1 h Q2 := by
  unfold p7_seed
  repeat' (first | (with_reducible exact hQ _ _) | (with_reducible refine brM ?_ ?_) | (with_reducible refine rdM (fun _ => ?_)) | (with_reducible refine wrM (fun _ => ?_)) | (with_reducible refine pfM (fun _ => ?_)) | (with_reducible refine jnM ?_) | (with_reducible exact idM) | (with_reducible refine anM ?_ ?_) | (with_reducible refine imM ?_) | (with_reducible refine cpM (fun _ => ?_)) | (with_reducible refine rsM (fun _ => ?_)))
theorem m_p7_keep {x1 : Int} {h : HP} {Q Q2 : Int → HP → Prop} (hQ : ∀ (y0 : Int) (y1 : HP), Q y0 y1 → Q2 y0 y1) : p7_keep x1 h Q → p7_keep x1 h Q2 := by
  unfold p7_keep
  repeat' (first | (with_reducible exact hQ _ _) | (with_reducible refine m_p5_copyFrom (fun _ => ?_)) | (with_reducible refine brM ?_ ?_) | (with_reducible refine rdM (fun _ => ?_)) | (with_reducible refine wrM (fun _ => ?_)) | (with_reducible refine pfM (fun _ => ?_)) | (with_reducible refine jnM ?_) | (with_reducible exact idM) | (with_reducible refine anM ?_ ?_) | (with_reducible refine imM ?_) | (with_reducible refine cpM (fun _ => ?_)) | (with_reducible refine rsM (fun _ => ?_)))
theorem m_p7_goBack {x1 : Int} {h : HP} {Q Q2 : Int → HP → Prop} (hQ : ∀ (y0 : Int) (y1 : HP), Q y0 y1 → Q2 y0 y1) : p7_goBack x1 h Q → p7_goBack x1 h Q2 := by
  unfold p7_goBack
  repeat' (first | (with_reducible exact hQ _ _) | (with_reducible refine m_p5_copyFrom (fun _ => ?_)) | (with_reducible refine brM ?_ ?_) | (with_reducible refine rdM (fun _ => ?_)) | (with_reducible refine wrM (fun _ => ?_)) | (with_reducible refine pfM (fun _ => ?_)) | (with_reducible refine jnM ?_) | (with_reducible exact idM) | (with_reducible refine anM ?_ ?_) | (with_reducible refine imM ?_) | (with_reducible refine cpM (fun _ => ?_)) | (with_reducible refine rsM (fun _ => ?_)))
theorem m_p8_in {x0 : Int} {x2 : Int} {x4 : Int} {h : HP} {Q Q2 : Int → Prop} (hQ : ∀ (y0 : Int), Q y0 → Q2 y0) : p8_in x0 x2 x4 h Q → p8_in x0 x2 x4 h Q2 := by
  unfold p8_in
  repeat' (first | (with_reducible exact hQ _) | (with_reducible refine brM ?_ ?_) | (with_reducible refine rdM (fun _ => ?_)) | (with_reducible refine wrM (fun _ => ?_)) | (with_reducible refine pfM (fun _ => ?_)) | (with_reducible refine jnM ?_) | (with_reducible exact idM) | (with_reducible refine anM ?_ ?_) | (with_reducible refine imM ?_) | (with_reducible refine cpM (fun _ => ?_)) | (with_reducible refine rsM (fun _ => ?_)))
theorem m_p8_feed_L35 {x2 : Int} {Q Q2 : Int → HP → Prop} (hQ : ∀ (y0 : Int) (y1 : HP), Q y0 y1 → Q2 y0 y1) : ∀ (fu : Nat) (a1 : HP) (a2 : Int), p8_feed_L35 x2 Q fu a1 a2 → p8_feed_L35 x2 Q2 fu a1 a2 := by
  intro fu
  induction fu with
  | zero => intro a1 a2 H; exact (show False from H).elim
  | succ fu ih =>
    intro a1 a2
    unfold p8_feed_L35
    repeat' (first | (with_reducible exact ih _ _) | (with_reducible exact hQ _ _) | (with_reducible refine brM ?_ ?_) | (with_reducible refine rdM (fun _ => ?_)) | (with_reducible refine wrM (fun _ => ?_)) | (with_reducible refine pfM (fun _ => ?_)) | (with_reducible refine jnM ?_) | (with_reducible exact idM) | (with_reducible refine anM ?_ ?_) | (with_reducible refine imM ?_) | (with_reducible refine cpM (fun _ => ?_)) | (with_reducible refine rsM (fun _ => ?_)))
theorem m_p8_feed {x1 : Int} {x2 : Int} {h : HP} {Q Q2 : Int → HP → Prop} (hQ : ∀ (y0 : Int) (y1 : HP), Q y0 y1 → Q2 y0 y1) : p8_feed x1 x2 h Q → p8_feed x1 x2 h Q2 := by
  unfold p8_feed
  repeat' (first | (with_reducible exact hQ _ _) | (with_reducible refine m_p8_in (fun _ => ?_)) | (with_reducible refine m_p8_feed_L35 (fun _ _ => ?_) _ _ _) | (with_reducible refine brM ?_ ?_) | (with_reducible refine rdM (fun _ => ?_)) | (with_reducible refine wrM (fun _ => ?_)) | (with_reducible refine pfM (fun _ => ?_)) | (with_reducible refine jnM ?_) | (with_reducible exact idM) | (with_reducible refine anM ?_ ?_) | (with_reducible refine imM ?_) | (with_reducible refine cpM (fun _ => ?_)) | (with_reducible refine rsM (fun _ => ?_)))
theorem m_p8_here_L0 {E38 E382 : HP → Prop} (hE38 : ∀ (y0 : HP), E38 y0 → E382 y0) : ∀ (fu : Nat) (a1 : HP), p8_here_L0 E38 fu a1 → p8_here_L0 E382 fu a1 := by
  intro fu
  induction fu with
  | zero => intro a1 H; exact (show False from H).elim
  | succ fu ih =>
    intro a1
    unfold p8_here_L0
    repeat' (first | (with_reducible exact ih _) | (with_reducible exact hE38 _) | (with_reducible refine brM ?_ ?_) | (with_reducible refine rdM (fun _ => ?_)) | (with_reducible refine wrM (fun _ => ?_)) | (with_reducible refine pfM (fun _ => ?_)) | (with_reducible refine jnM ?_) | (with_reducible exact idM) | (with_reducible refine anM ?_ ?_) | (with_reducible refine imM ?_) | (with_reducible refine cpM (fun _ => ?_)) | (with_reducible refine rsM (fun _ => ?_)))
theorem m_p8_here {h : HP} {Q Q2 : Int → HP → Prop} (hQ : ∀ (y0 : Int) (y1 : HP), Q y0 y1 → Q2 y0 y1) : p8_here h Q → p8_here h Q2 := by
  unfold p8_here
  repeat' (first | (with_reducible exact hQ _ _) | (with_reducible refine m_p8_here_L0 (fun _ => ?_) _ _) | (with_reducible refine brM ?_ ?_) | (with_reducible refine rdM (fun _ => ?_)) | (with_reducible refine wrM (fun _ => ?_)) | (with_reducible refine pfM (fun _ => ?_)) | (with_reducible refine jnM ?_) | (with_reducible exact idM) | (with_reducible refine anM ?_ ?_) | (with_reducible refine imM ?_) | (with_reducible refine cpM (fun _ => ?_)) | (with_reducible refine rsM (fun _ => ?_)))
theorem m_p8_readWord_L18 {Q Q2 : HP → Prop} (hQ : ∀ (y0 : HP), Q y0 → Q2 y0) : ∀ (fu : Nat) (a1 : HP), p8_readWord_L18 Q fu a1 → p8_readWord_L18 Q2 fu a1 := by
  intro fu
  induction fu with
  | zero => intro a1 H; exact (show False from H).elim
  | succ fu ih =>
    intro a1
    unfold p8_readWord_L18
    repeat' (first | (with_reducible exact ih _) | (with_reducible exact hQ _) | (with_reducible refine m_p8_in (fun _ => ?_)) | (with_reducible refine brM ?_ ?_) | (with_reducible refine rdM (fun _ => ?_)) | (with_reducible refine wrM (fun _ => ?_)) | (with_reducible refine pfM (fun _ => ?_)) | (with_reducible refine jnM ?_) | (with_reducible exact idM) | (with_reducible refine anM ?_ ?_) | (with_reducible refine imM ?_) | (with_reducible refine cpM (fun _ => ?_)) | (with_reducible refine rsM (fun _ => ?_)))
theorem m_p8_readWord {h : HP} {Q Q2 : HP → Prop} (hQ : ∀ (y0 : HP), Q y0 → Q2 y0) : p8_readWord h Q → p8_readWord h Q2 := by
  unfold p8_readWord
  repeat' (first | (with_reducible exact hQ _) | (with_reducible refine m_p8_here (fun _ _ => ?_)) | (with_reducible refine m_p8_readWord_L18 (fun _ => ?_) _ _) | (with_reducible refine brM ?_ ?_) | (with_reducible refine rdM (fun _ => ?_)) | (with_reducible refine wrM (fun _ => ?_)) | (with_reducible refine pfM (fun _ => ?_)) | (with_reducible refine jnM ?_) | (with_reducible exact idM) | (with_reducible refine anM ?_ ?_) | (with_reducible refine imM ?_) | (with_reducible refine cpM (fun _ => ?_)) | (with_reducible refine rsM (fun _ => ?_)))
theorem m_p8_code {x0 : Int} {x1 : Int} {x2 : Int} {x3 : Int} {x4 : Int} {h : HP} {Q Q2 : Int → Prop} (hQ : ∀ (y0 : Int), Q y0 → Q2 y0) : p8_code x0 x1 x2 x3 x4 h Q → p8_code x0 x1 x2 x3 x4 h Q2 := by
  unfold p8_code
  repeat' (first | (with_reducible exact hQ _) | (with_reducible refine brM ?_ ?_) | (with_reducible refine rdM (fun _ => ?_)) | (with_reducible refine wrM (fun _ => ?_)) | (with_reducible refine pfM (fun _ => ?_)) | (with_reducible refine jnM ?_) | (with_reducible exact idM) | (with_reducible refine anM ?_ ?_) | (with_reducible refine imM ?_) | (with_reducible refine cpM (fun _ => ?_)) | (with_reducible refine rsM (fun _ => ?_)))
theorem m_p8_fails {x1 : Int} {x2 : Int} {h : HP} {Q Q2 : Int → HP → Prop} (hQ : ∀ (y0 : Int) (y1 : HP), Q y0 y1 → Q2 y0 y1) : p8_fails x1 x2 h Q → p8_fails x1 x2 h Q2 := by
  unfold p8_fails
  repeat' (first | (with_reducible exact hQ _ _) | (with_reducible refine brM ?_ ?_) | (with_reducible refine rdM (fun _ => ?_)) | (with_reducible refine wrM (fun _ => ?_)) | (with_reducible refine pfM (fun _ => ?_)) | (with_reducible refine jnM ?_) | (with_reducible exact idM) | (with_reducible refine anM ?_ ?_) | (with_reducible refine imM ?_) | (with_reducible refine cpM (fun _ => ?_)) | (with_reducible refine rsM (fun _ => ?_)))
theorem m_p8_takeNumber_L42 {x1 : Int} {x2 : Int} {E129 E1292 : HP → Prop} (hE129 : ∀ (y0 : HP), E129 y0 → E1292 y0) : ∀ (fu : Nat) (a1 : HP), p8_takeNumber_L42 x1 x2 E129 fu a1 → p8_takeNumber_L42 x1 x2 E1292 fu a1 := by
  intro fu
  induction fu with
  | zero => intro a1 H; exact (show False from H).elim
  | succ fu ih =>
    intro a1
    unfold p8_takeNumber_L42
    repeat' (first | (with_reducible exact ih _) | (with_reducible exact hE129 _) | (with_reducible refine m_p8_in (fun _ => ?_)) | (with_reducible refine brM ?_ ?_) | (with_reducible refine rdM (fun _ => ?_)) | (with_reducible refine wrM (fun _ => ?_)) | (with_reducible refine pfM (fun _ => ?_)) | (with_reducible refine jnM ?_) | (with_reducible exact idM) | (with_reducible refine anM ?_ ?_) | (with_reducible refine imM ?_) | (with_reducible refine cpM (fun _ => ?_)) | (with_reducible refine rsM (fun _ => ?_)))
theorem m_p8_takeNumber {x1 : Int} {x2 : Int} {h : HP} {Q Q2 : Int → HP → Prop} (hQ : ∀ (y0 : Int) (y1 : HP), Q y0 y1 → Q2 y0 y1) : p8_takeNumber x1 x2 h Q → p8_takeNumber x1 x2 h Q2 := by
  unfold p8_takeNumber
  repeat' (first | (with_reducible exact hQ _ _) | (with_reducible refine m_p8_here (fun _ _ => ?_)) | (with_reducible refine m_p8_in (fun _ => ?_)) | (with_reducible refine m_p8_fails (fun _ _ => ?_)) | (with_reducible refine m_p8_takeNumber_L42 (fun _ => ?_) _ _) | (with_reducible refine brM ?_ ?_) | (with_reducible refine rdM (fun _ => ?_)) | (with_reducible refine wrM (fun _ => ?_)) | (with_reducible refine pfM (fun _ => ?_)) | (with_reducible refine jnM ?_) | (with_reducible exact idM) | (with_reducible refine anM ?_ ?_) | (with_reducible refine imM ?_) | (with_reducible refine cpM (fun _ => ?_)) | (with_reducible refine rsM (fun _ => ?_)))
theorem m_p8_takeWorth {h : HP} {Q Q2 : Int → HP → Prop} (hQ : ∀ (y0 : Int) (y1 : HP), Q y0 y1 → Q2 y0 y1) : p8_takeWorth h Q → p8_takeWorth h Q2 := by
  unfold p8_takeWorth
  repeat' (first | (with_reducible exact hQ _ _) | (with_reducible refine m_p8_takeNumber (fun _ _ => ?_)) | (with_reducible refine m_p8_fails (fun _ _ => ?_)) | (with_reducible refine brM ?_ ?_) | (with_reducible refine rdM (fun _ => ?_)) | (with_reducible refine wrM (fun _ => ?_)) | (with_reducible refine pfM (fun _ => ?_)) | (with_reducible refine jnM ?_) | (with_reducible exact idM) | (with_reducible refine anM ?_ ?_) | (with_reducible refine imM ?_) | (with_reducible refine cpM (fun _ => ?_)) | (with_reducible refine rsM (fun _ => ?_)))
theorem m_p8_takeHouse_L35 {x1 : Int} {Q Q2 : Int → HP → Prop} (hQ : ∀ (y0 : Int) (y1 : HP), Q y0 y1 → Q2 y0 y1) : ∀ (fu : Nat) (a1 : HP) (a2 : Int) (a3 : Int), p8_takeHouse_L35 x1 Q fu a1 a2 a3 → p8_takeHouse_L35 x1 Q2 fu a1 a2 a3 := by
  intro fu
  induction fu with
  | zero => intro a1 a2 a3 H; exact (show False from H).elim
  | succ fu ih =>
    intro a1 a2 a3
    unfold p8_takeHouse_L35
    repeat' (first | (with_reducible exact ih _ _ _) | (with_reducible exact hQ _ _) | (with_reducible refine m_p8_here (fun _ _ => ?_)) | (with_reducible refine m_p8_in (fun _ => ?_)) | (with_reducible refine m_p8_takeNumber (fun _ _ => ?_)) | (with_reducible refine m_p8_fails (fun _ _ => ?_)) | (with_reducible refine brM ?_ ?_) | (with_reducible refine rdM (fun _ => ?_)) | (with_reducible refine wrM (fun _ => ?_)) | (with_reducible refine pfM (fun _ => ?_)) | (with_reducible refine jnM ?_) | (with_reducible exact idM) | (with_reducible refine anM ?_ ?_) | (with_reducible refine imM ?_) | (with_reducible refine cpM (fun _ => ?_)) | (with_reducible refine rsM (fun _ => ?_)))
theorem m_p8_takeHouse {h : HP} {Q Q2 : Int → HP → Prop} (hQ : ∀ (y0 : Int) (y1 : HP), Q y0 y1 → Q2 y0 y1) : p8_takeHouse h Q → p8_takeHouse h Q2 := by
  unfold p8_takeHouse
  repeat' (first | (with_reducible exact hQ _ _) | (with_reducible refine m_p8_takeNumber (fun _ _ => ?_)) | (with_reducible refine m_p8_takeHouse_L35 (fun _ _ => ?_) _ _ _ _) | (with_reducible refine brM ?_ ?_) | (with_reducible refine rdM (fun _ => ?_)) | (with_reducible refine wrM (fun _ => ?_)) | (with_reducible refine pfM (fun _ => ?_)) | (with_reducible refine jnM ?_) | (with_reducible exact idM) | (with_reducible refine anM ?_ ?_) | (with_reducible refine imM ?_) | (with_reducible refine cpM (fun _ => ?_)) | (with_reducible refine rsM (fun _ => ?_)))
theorem m_p8_takeClause {h : HP} {Q Q2 : Int → HP → Prop} (hQ : ∀ (y0 : Int) (y1 : HP), Q y0 y1 → Q2 y0 y1) : p8_takeClause h Q → p8_takeClause h Q2 := by
  unfold p8_takeClause
  repeat' (first | (with_reducible exact hQ _ _) | (with_reducible refine m_p8_readWord (fun _ => ?_)) | (with_reducible refine m_p8_code (fun _ => ?_)) | (with_reducible refine m_p8_fails (fun _ _ => ?_)) | (with_reducible refine m_p8_here (fun _ _ => ?_)) | (with_reducible refine m_p8_takeNumber (fun _ _ => ?_)) | (with_reducible refine m_p8_takeHouse (fun _ _ => ?_)) | (with_reducible refine m_p8_takeWorth (fun _ _ => ?_)) | (with_reducible refine brM ?_ ?_) | (with_reducible refine rdM (fun _ => ?_)) | (with_reducible refine wrM (fun _ => ?_)) | (with_reducible refine pfM (fun _ => ?_)) | (with_reducible refine jnM ?_) | (with_reducible exact idM) | (with_reducible refine anM ?_ ?_) | (with_reducible refine imM ?_) | (with_reducible refine cpM (fun _ => ?_)) | (with_reducible refine rsM (fun _ => ?_)))
theorem m_p8_begin_L20 {x1 : Int} {Q Q2 : Int → HP → Prop} (hQ : ∀ (y0 : Int) (y1 : HP), Q y0 y1 → Q2 y0 y1) : ∀ (fu : Nat) (a1 : HP) (a2 : Int), p8_begin_L20 x1 Q fu a1 a2 → p8_begin_L20 x1 Q2 fu a1 a2 := by
  intro fu
  induction fu with
  | zero => intro a1 a2 H; exact (show False from H).elim
  | succ fu ih =>
    intro a1 a2
    unfold p8_begin_L20
    repeat' (first | (with_reducible exact ih _ _) | (with_reducible exact hQ _ _) | (with_reducible refine brM ?_ ?_) | (with_reducible refine rdM (fun _ => ?_)) | (with_reducible refine wrM (fun _ => ?_)) | (with_reducible refine pfM (fun _ => ?_)) | (with_reducible refine jnM ?_) | (with_reducible exact idM) | (with_reducible refine anM ?_ ?_) | (with_reducible refine imM ?_) | (with_reducible refine cpM (fun _ => ?_)) | (with_reducible refine rsM (fun _ => ?_)))
theorem m_p8_begin {h : HP} {Q Q2 : Int → HP → Prop} (hQ : ∀ (y0 : Int) (y1 : HP), Q y0 y1 → Q2 y0 y1) : p8_begin h Q → p8_begin h Q2 := by
  unfold p8_begin
  repeat' (first | (with_reducible exact hQ _ _) | (with_reducible refine m_p8_begin_L20 (fun _ _ => ?_) _ _ _) | (with_reducible refine brM ?_ ?_) | (with_reducible refine rdM (fun _ => ?_)) | (with_reducible refine wrM (fun _ => ?_)) | (with_reducible refine pfM (fun _ => ?_)) | (with_reducible refine jnM ?_) | (with_reducible exact idM) | (with_reducible refine anM ?_ ?_) | (with_reducible refine imM ?_) | (with_reducible refine cpM (fun _ => ?_)) | (with_reducible refine rsM (fun _ => ?_)))
theorem m_p8_spit_L32 {E51 E512 : HP → Prop} (hE51 : ∀ (y0 : HP), E51 y0 → E512 y0) : ∀ (fu : Nat) (a1 : HP) (a2 : Int), p8_spit_L32 E51 fu a1 a2 → p8_spit_L32 E512 fu a1 a2 := by
  intro fu
  induction fu with
  | zero => intro a1 a2 H; exact (show False from H).elim
  | succ fu ih =>
    intro a1 a2
    unfold p8_spit_L32
    repeat' (first | (with_reducible exact ih _ _) | (with_reducible exact hE51 _) | (with_reducible refine brM ?_ ?_) | (with_reducible refine rdM (fun _ => ?_)) | (with_reducible refine wrM (fun _ => ?_)) | (with_reducible refine pfM (fun _ => ?_)) | (with_reducible refine jnM ?_) | (with_reducible exact idM) | (with_reducible refine anM ?_ ?_) | (with_reducible refine imM ?_) | (with_reducible refine cpM (fun _ => ?_)) | (with_reducible refine rsM (fun _ => ?_)))
theorem m_p8_spit_L53 {E72 E722 : HP → Int → Prop} (hE72 : ∀ (y0 : HP) (y1 : Int), E72 y0 y1 → E722 y0 y1) : ∀ (fu : Nat) (a1 : HP) (a2 : Int), p8_spit_L53 E72 fu a1 a2 → p8_spit_L53 E722 fu a1 a2 := by
  intro fu
  induction fu with
  | zero => intro a1 a2 H; exact (show False from H).elim
  | succ fu ih =>
    intro a1 a2
    unfold p8_spit_L53
    repeat' (first | (with_reducible exact ih _ _) | (with_reducible exact hE72 _ _) | (with_reducible refine m_p8_here (fun _ _ => ?_)) | (with_reducible refine m_p8_takeClause (fun _ _ => ?_)) | (with_reducible refine brM ?_ ?_) | (with_reducible refine rdM (fun _ => ?_)) | (with_reducible refine wrM (fun _ => ?_)) | (with_reducible refine pfM (fun _ => ?_)) | (with_reducible refine jnM ?_) | (with_reducible exact idM) | (with_reducible refine anM ?_ ?_) | (with_reducible refine imM ?_) | (with_reducible refine cpM (fun _ => ?_)) | (with_reducible refine rsM (fun _ => ?_)))
theorem m_p8_spit_L112 {E135 E1352 : HP → Prop} (hE135 : ∀ (y0 : HP), E135 y0 → E1352 y0) : ∀ (fu : Nat) (a1 : HP) (a2 : Int), p8_spit_L112 E135 fu a1 a2 → p8_spit_L112 E1352 fu a1 a2 := by
  intro fu
  induction fu with
  | zero => intro a1 a2 H; exact (show False from H).elim
  | succ fu ih =>
    intro a1 a2
    unfold p8_spit_L112
    repeat' (first | (with_reducible exact ih _ _) | (with_reducible exact hE135 _) | (with_reducible refine brM ?_ ?_) | (with_reducible refine rdM (fun _ => ?_)) | (with_reducible refine wrM (fun _ => ?_)) | (with_reducible refine pfM (fun _ => ?_)) | (with_reducible refine jnM ?_) | (with_reducible exact idM) | (with_reducible refine anM ?_ ?_) | (with_reducible refine imM ?_) | (with_reducible refine cpM (fun _ => ?_)) | (with_reducible refine rsM (fun _ => ?_)))
theorem m_p8_spit_L137 {E174 E1742 : HP → Prop} (hE174 : ∀ (y0 : HP), E174 y0 → E1742 y0) : ∀ (fu : Nat) (a1 : HP) (a2 : Int), p8_spit_L137 E174 fu a1 a2 → p8_spit_L137 E1742 fu a1 a2 := by
  intro fu
  induction fu with
  | zero => intro a1 a2 H; exact (show False from H).elim
  | succ fu ih =>
    intro a1 a2
    unfold p8_spit_L137
    repeat' (first | (with_reducible exact ih _ _) | (with_reducible exact hE174 _) | (with_reducible refine brM ?_ ?_) | (with_reducible refine rdM (fun _ => ?_)) | (with_reducible refine wrM (fun _ => ?_)) | (with_reducible refine pfM (fun _ => ?_)) | (with_reducible refine jnM ?_) | (with_reducible exact idM) | (with_reducible refine anM ?_ ?_) | (with_reducible refine imM ?_) | (with_reducible refine cpM (fun _ => ?_)) | (with_reducible refine rsM (fun _ => ?_)))
theorem m_p8_spit_L176 {E212 E2122 : HP → Prop} (hE212 : ∀ (y0 : HP), E212 y0 → E2122 y0) : ∀ (fu : Nat) (a1 : HP) (a2 : Int), p8_spit_L176 E212 fu a1 a2 → p8_spit_L176 E2122 fu a1 a2 := by
  intro fu
  induction fu with
  | zero => intro a1 a2 H; exact (show False from H).elim
  | succ fu ih =>
    intro a1 a2
    unfold p8_spit_L176
    repeat' (first | (with_reducible exact ih _ _) | (with_reducible exact hE212 _) | (with_reducible refine brM ?_ ?_) | (with_reducible refine rdM (fun _ => ?_)) | (with_reducible refine wrM (fun _ => ?_)) | (with_reducible refine pfM (fun _ => ?_)) | (with_reducible refine jnM ?_) | (with_reducible exact idM) | (with_reducible refine anM ?_ ?_) | (with_reducible refine imM ?_) | (with_reducible refine cpM (fun _ => ?_)) | (with_reducible refine rsM (fun _ => ?_)))
theorem m_p8_spit {h : HP} {Q Q2 : Int → HP → Prop} (hQ : ∀ (y0 : Int) (y1 : HP), Q y0 y1 → Q2 y0 y1) : p8_spit h Q → p8_spit h Q2 := by
  unfold p8_spit
  repeat' (first | (with_reducible exact hQ _ _) | (with_reducible refine m_p8_spit_L32 (fun _ => ?_) _ _ _) | (with_reducible refine m_p8_spit_L53 (fun _ _ => ?_) _ _ _) | (with_reducible refine m_p8_spit_L112 (fun _ => ?_) _ _ _) | (with_reducible refine m_p8_spit_L137 (fun _ => ?_) _ _ _) | (with_reducible refine m_p8_spit_L176 (fun _ => ?_) _ _ _) | (with_reducible refine m_p8_begin (fun _ _ => ?_)) | (with_reducible refine brM ?_ ?_) | (with_reducible refine rdM (fun _ => ?_)) | (with_reducible refine wrM (fun _ => ?_)) | (with_reducible refine pfM (fun _ => ?_)) | (with_reducible refine jnM ?_) | (with_reducible exact idM) | (with_reducible refine anM ?_ ?_) | (with_reducible refine imM ?_) | (with_reducible refine cpM (fun _ => ?_)) | (with_reducible refine rsM (fun _ => ?_)))
theorem m_p8_fault {h : HP} {Q Q2 : Int → Prop} (hQ : ∀ (y0 : Int), Q y0 → Q2 y0) : p8_fault h Q → p8_fault h Q2 := by
  unfold p8_fault
  repeat' (first | (with_reducible exact hQ _) | (with_reducible refine brM ?_ ?_) | (with_reducible refine rdM (fun _ => ?_)) | (with_reducible refine wrM (fun _ => ?_)) | (with_reducible refine pfM (fun _ => ?_)) | (with_reducible refine jnM ?_) | (with_reducible exact idM) | (with_reducible refine anM ?_ ?_) | (with_reducible refine imM ?_) | (with_reducible refine cpM (fun _ => ?_)) | (with_reducible refine rsM (fun _ => ?_)))
theorem m_p8_countOf_L4 {x1 : Int} {h : HP} {Q Q2 : Int → Prop} (hQ : ∀ (y0 : Int), Q y0 → Q2 y0) : ∀ (fu : Nat) (a1 : Int) (a2 : Int), p8_countOf_L4 x1 h Q fu a1 a2 → p8_countOf_L4 x1 h Q2 fu a1 a2 := by
  intro fu
  induction fu with
  | zero => intro a1 a2 H; exact (show False from H).elim
  | succ fu ih =>
    intro a1 a2
    unfold p8_countOf_L4
    repeat' (first | (with_reducible exact ih _ _) | (with_reducible exact hQ _) | (with_reducible refine brM ?_ ?_) | (with_reducible refine rdM (fun _ => ?_)) | (with_reducible refine wrM (fun _ => ?_)) | (with_reducible refine pfM (fun _ => ?_)) | (with_reducible refine jnM ?_) | (with_reducible exact idM) | (with_reducible refine anM ?_ ?_) | (with_reducible refine imM ?_) | (with_reducible refine cpM (fun _ => ?_)) | (with_reducible refine rsM (fun _ => ?_)))
theorem m_p8_countOf {x1 : Int} {h : HP} {Q Q2 : Int → Prop} (hQ : ∀ (y0 : Int), Q y0 → Q2 y0) : p8_countOf x1 h Q → p8_countOf x1 h Q2 := by
  unfold p8_countOf
  repeat' (first | (with_reducible exact hQ _) | (with_reducible refine m_p8_countOf_L4 (fun _ => ?_) _ _ _) | (with_reducible refine brM ?_ ?_) | (with_reducible refine rdM (fun _ => ?_)) | (with_reducible refine wrM (fun _ => ?_)) | (with_reducible refine pfM (fun _ => ?_)) | (with_reducible refine jnM ?_) | (with_reducible exact idM) | (with_reducible refine anM ?_ ?_) | (with_reducible refine imM ?_) | (with_reducible refine cpM (fun _ => ?_)) | (with_reducible refine rsM (fun _ => ?_)))
theorem m_p8_poor_L4 {h : HP} {Q Q2 : Int → Prop} (hQ : ∀ (y0 : Int), Q y0 → Q2 y0) : ∀ (fu : Nat) (a1 : Int) (a2 : Int), p8_poor_L4 h Q fu a1 a2 → p8_poor_L4 h Q2 fu a1 a2 := by
  intro fu
  induction fu with
  | zero => intro a1 a2 H; exact (show False from H).elim
  | succ fu ih =>
    intro a1 a2
    unfold p8_poor_L4
    repeat' (first | (with_reducible exact ih _ _) | (with_reducible exact hQ _) | (with_reducible refine m_p8_countOf (fun _ => ?_)) | (with_reducible refine brM ?_ ?_) | (with_reducible refine rdM (fun _ => ?_)) | (with_reducible refine wrM (fun _ => ?_)) | (with_reducible refine pfM (fun _ => ?_)) | (with_reducible refine jnM ?_) | (with_reducible exact idM) | (with_reducible refine anM ?_ ?_) | (with_reducible refine imM ?_) | (with_reducible refine cpM (fun _ => ?_)) | (with_reducible refine rsM (fun _ => ?_)))
theorem m_p8_poor {h : HP} {Q Q2 : Int → Prop} (hQ : ∀ (y0 : Int), Q y0 → Q2 y0) : p8_poor h Q → p8_poor h Q2 := by
  unfold p8_poor
  repeat' (first | (with_reducible exact hQ _) | (with_reducible refine m_p8_poor_L4 (fun _ => ?_) _ _ _) | (with_reducible refine brM ?_ ?_) | (with_reducible refine rdM (fun _ => ?_)) | (with_reducible refine wrM (fun _ => ?_)) | (with_reducible refine pfM (fun _ => ?_)) | (with_reducible refine jnM ?_) | (with_reducible exact idM) | (with_reducible refine anM ?_ ?_) | (with_reducible refine imM ?_) | (with_reducible refine cpM (fun _ => ?_)) | (with_reducible refine rsM (fun _ => ?_)))
theorem m_p8_told {x1 : Int} {h : HP} {Q Q2 : Int → Prop} (hQ : ∀ (y0 : Int), Q y0 → Q2 y0) : p8_told x1 h Q → p8_told x1 h Q2 := by
  unfold p8_told
  repeat' (first | (with_reducible exact hQ _) | (with_reducible refine m_p8_poor (fun _ => ?_)) | (with_reducible refine m_p8_countOf (fun _ => ?_)) | (with_reducible refine brM ?_ ?_) | (with_reducible refine rdM (fun _ => ?_)) | (with_reducible refine wrM (fun _ => ?_)) | (with_reducible refine pfM (fun _ => ?_)) | (with_reducible refine jnM ?_) | (with_reducible exact idM) | (with_reducible refine anM ?_ ?_) | (with_reducible refine imM ?_) | (with_reducible refine cpM (fun _ => ?_)) | (with_reducible refine rsM (fun _ => ?_)))
theorem m_p8_isHouse {x1 : Int} {h : HP} {Q Q2 : Int → Prop} (hQ : ∀ (y0 : Int), Q y0 → Q2 y0) : p8_isHouse x1 h Q → p8_isHouse x1 h Q2 := by
  unfold p8_isHouse
  repeat' (first | (with_reducible exact hQ _) | (with_reducible refine m_p8_in (fun _ => ?_)) | (with_reducible refine brM ?_ ?_) | (with_reducible refine rdM (fun _ => ?_)) | (with_reducible refine wrM (fun _ => ?_)) | (with_reducible refine pfM (fun _ => ?_)) | (with_reducible refine jnM ?_) | (with_reducible exact idM) | (with_reducible refine anM ?_ ?_) | (with_reducible refine imM ?_) | (with_reducible refine cpM (fun _ => ?_)) | (with_reducible refine rsM (fun _ => ?_)))
theorem m_p8_sortsOf_L4 {x1 : Int} {h : HP} {Q Q2 : Int → Prop} (hQ : ∀ (y0 : Int), Q y0 → Q2 y0) : ∀ (fu : Nat) (a1 : Int) (a2 : Int), p8_sortsOf_L4 x1 h Q fu a1 a2 → p8_sortsOf_L4 x1 h Q2 fu a1 a2 := by
  intro fu
  induction fu with
  | zero => intro a1 a2 H; exact (show False from H).elim
  | succ fu ih =>
    intro a1 a2
    unfold p8_sortsOf_L4
    repeat' (first | (with_reducible exact ih _ _) | (with_reducible exact hQ _) | (with_reducible refine brM ?_ ?_) | (with_reducible refine rdM (fun _ => ?_)) | (with_reducible refine wrM (fun _ => ?_)) | (with_reducible refine pfM (fun _ => ?_)) | (with_reducible refine jnM ?_) | (with_reducible exact idM) | (with_reducible refine anM ?_ ?_) | (with_reducible refine imM ?_) | (with_reducible refine cpM (fun _ => ?_)) | (with_reducible refine rsM (fun _ => ?_)))
theorem m_p8_sortsOf {x1 : Int} {h : HP} {Q Q2 : Int → Prop} (hQ : ∀ (y0 : Int), Q y0 → Q2 y0) : p8_sortsOf x1 h Q → p8_sortsOf x1 h Q2 := by
  unfold p8_sortsOf
  repeat' (first | (with_reducible exact hQ _) | (with_reducible refine m_p8_sortsOf_L4 (fun _ => ?_) _ _ _) | (with_reducible refine brM ?_ ?_) | (with_reducible refine rdM (fun _ => ?_)) | (with_reducible refine wrM (fun _ => ?_)) | (with_reducible refine pfM (fun _ => ?_)) | (with_reducible refine jnM ?_) | (with_reducible exact idM) | (with_reducible refine anM ?_ ?_) | (with_reducible refine imM ?_) | (with_reducible refine cpM (fun _ => ?_)) | (with_reducible refine rsM (fun _ => ?_)))
theorem m_p8_has {x0 : Int} {x1 : Int} {h : HP} {Q Q2 : Int → Prop} (hQ : ∀ (y0 : Int), Q y0 → Q2 y0) : p8_has x0 x1 h Q → p8_has x0 x1 h Q2 := by
  unfold p8_has
  repeat' (first | (with_reducible exact hQ _) | (with_reducible refine brM ?_ ?_) | (with_reducible refine rdM (fun _ => ?_)) | (with_reducible refine wrM (fun _ => ?_)) | (with_reducible refine pfM (fun _ => ?_)) | (with_reducible refine jnM ?_) | (with_reducible exact idM) | (with_reducible refine anM ?_ ?_) | (with_reducible refine imM ?_) | (with_reducible refine cpM (fun _ => ?_)) | (with_reducible refine rsM (fun _ => ?_)))
theorem m_p8_worthOf_L5 {x1 : Int} {x2 : Int} {h : HP} {Q Q2 : Int → Prop} (hQ : ∀ (y0 : Int), Q y0 → Q2 y0) : ∀ (fu : Nat) (a1 : Int) (a2 : Int), p8_worthOf_L5 x1 x2 h Q fu a1 a2 → p8_worthOf_L5 x1 x2 h Q2 fu a1 a2 := by
  intro fu
  induction fu with
  | zero => intro a1 a2 H; exact (show False from H).elim
  | succ fu ih =>
    intro a1 a2
    unfold p8_worthOf_L5
    repeat' (first | (with_reducible exact ih _ _) | (with_reducible exact hQ _) | (with_reducible refine m_p8_has (fun _ => ?_)) | (with_reducible refine brM ?_ ?_) | (with_reducible refine rdM (fun _ => ?_)) | (with_reducible refine wrM (fun _ => ?_)) | (with_reducible refine pfM (fun _ => ?_)) | (with_reducible refine jnM ?_) | (with_reducible exact idM) | (with_reducible refine anM ?_ ?_) | (with_reducible refine imM ?_) | (with_reducible refine cpM (fun _ => ?_)) | (with_reducible refine rsM (fun _ => ?_)))
theorem m_p8_worthOf {x1 : Int} {x2 : Int} {h : HP} {Q Q2 : Int → Prop} (hQ : ∀ (y0 : Int), Q y0 → Q2 y0) : p8_worthOf x1 x2 h Q → p8_worthOf x1 x2 h Q2 := by
  unfold p8_worthOf
  repeat' (first | (with_reducible exact hQ _) | (with_reducible refine m_p8_worthOf_L5 (fun _ => ?_) _ _ _) | (with_reducible refine brM ?_ ?_) | (with_reducible refine rdM (fun _ => ?_)) | (with_reducible refine wrM (fun _ => ?_)) | (with_reducible refine pfM (fun _ => ?_)) | (with_reducible refine jnM ?_) | (with_reducible exact idM) | (with_reducible refine anM ?_ ?_) | (with_reducible refine imM ?_) | (with_reducible refine cpM (fun _ => ?_)) | (with_reducible refine rsM (fun _ => ?_)))
theorem m_p8_wealthOf {x1 : Int} {h : HP} {Q Q2 : Int → Prop} (hQ : ∀ (y0 : Int), Q y0 → Q2 y0) : p8_wealthOf x1 h Q → p8_wealthOf x1 h Q2 := by
  unfold p8_wealthOf
  repeat' (first | (with_reducible exact hQ _) | (with_reducible refine m_p8_sortsOf (fun _ => ?_)) | (with_reducible refine m_p8_worthOf (fun _ => ?_)) | (with_reducible refine brM ?_ ?_) | (with_reducible refine rdM (fun _ => ?_)) | (with_reducible refine wrM (fun _ => ?_)) | (with_reducible refine pfM (fun _ => ?_)) | (with_reducible refine jnM ?_) | (with_reducible exact idM) | (with_reducible refine anM ?_ ?_) | (with_reducible refine imM ?_) | (with_reducible refine cpM (fun _ => ?_)) | (with_reducible refine rsM (fun _ => ?_)))
theorem m_p8_inYard_L4 {x1 : Int} {h : HP} {Q Q2 : Int → Prop} (hQ : ∀ (y0 : Int), Q y0 → Q2 y0) : ∀ (fu : Nat) (a1 : Int) (a2 : Int), p8_inYard_L4 x1 h Q fu a1 a2 → p8_inYard_L4 x1 h Q2 fu a1 a2 := by
  intro fu
  induction fu with
  | zero => intro a1 a2 H; exact (show False from H).elim
  | succ fu ih =>
    intro a1 a2
    unfold p8_inYard_L4
    repeat' (first | (with_reducible exact ih _ _) | (with_reducible exact hQ _) | (with_reducible refine brM ?_ ?_) | (with_reducible refine rdM (fun _ => ?_)) | (with_reducible refine wrM (fun _ => ?_)) | (with_reducible refine pfM (fun _ => ?_)) | (with_reducible refine jnM ?_) | (with_reducible exact idM) | (with_reducible refine anM ?_ ?_) | (with_reducible refine imM ?_) | (with_reducible refine cpM (fun _ => ?_)) | (with_reducible refine rsM (fun _ => ?_)))
theorem m_p8_inYard {x1 : Int} {h : HP} {Q Q2 : Int → Prop} (hQ : ∀ (y0 : Int), Q y0 → Q2 y0) : p8_inYard x1 h Q → p8_inYard x1 h Q2 := by
  unfold p8_inYard
  repeat' (first | (with_reducible exact hQ _) | (with_reducible refine m_p8_inYard_L4 (fun _ => ?_) _ _ _) | (with_reducible refine brM ?_ ?_) | (with_reducible refine rdM (fun _ => ?_)) | (with_reducible refine wrM (fun _ => ?_)) | (with_reducible refine pfM (fun _ => ?_)) | (with_reducible refine jnM ?_) | (with_reducible exact idM) | (with_reducible refine anM ?_ ?_) | (with_reducible refine imM ?_) | (with_reducible refine cpM (fun _ => ?_)) | (with_reducible refine rsM (fun _ => ?_)))
theorem m_p8_house {x1 : Int} {x2 : Int} {h : HP} {Q Q2 : Int → Prop} (hQ : ∀ (y0 : Int), Q y0 → Q2 y0) : p8_house x1 x2 h Q → p8_house x1 x2 h Q2 := by
  unfold p8_house
  repeat' (first | (with_reducible exact hQ _) | (with_reducible refine m_p8_isHouse (fun _ => ?_)) | (with_reducible refine m_p8_countOf (fun _ => ?_)) | (with_reducible refine m_p8_wealthOf (fun _ => ?_)) | (with_reducible refine m_p8_sortsOf (fun _ => ?_)) | (with_reducible refine m_p8_inYard (fun _ => ?_)) | (with_reducible refine brM ?_ ?_) | (with_reducible refine rdM (fun _ => ?_)) | (with_reducible refine wrM (fun _ => ?_)) | (with_reducible refine pfM (fun _ => ?_)) | (with_reducible refine jnM ?_) | (with_reducible exact idM) | (with_reducible refine anM ?_ ?_) | (with_reducible refine imM ?_) | (with_reducible refine cpM (fun _ => ?_)) | (with_reducible refine rsM (fun _ => ?_)))
theorem m_p8_isSort {x1 : Int} {h : HP} {Q Q2 : Int → Prop} (hQ : ∀ (y0 : Int), Q y0 → Q2 y0) : p8_isSort x1 h Q → p8_isSort x1 h Q2 := by
  unfold p8_isSort
  repeat' (first | (with_reducible exact hQ _) | (with_reducible refine m_p8_in (fun _ => ?_)) | (with_reducible refine brM ?_ ?_) | (with_reducible refine rdM (fun _ => ?_)) | (with_reducible refine wrM (fun _ => ?_)) | (with_reducible refine pfM (fun _ => ?_)) | (with_reducible refine jnM ?_) | (with_reducible exact idM) | (with_reducible refine anM ?_ ?_) | (with_reducible refine imM ?_) | (with_reducible refine cpM (fun _ => ?_)) | (with_reducible refine rsM (fun _ => ?_)))
theorem m_p8_worth {x1 : Int} {x2 : Int} {h : HP} {Q Q2 : Int → Prop} (hQ : ∀ (y0 : Int), Q y0 → Q2 y0) : p8_worth x1 x2 h Q → p8_worth x1 x2 h Q2 := by
  unfold p8_worth
  repeat' (first | (with_reducible exact hQ _) | (with_reducible refine m_p8_isHouse (fun _ => ?_)) | (with_reducible refine m_p8_isSort (fun _ => ?_)) | (with_reducible refine brM ?_ ?_) | (with_reducible refine rdM (fun _ => ?_)) | (with_reducible refine wrM (fun _ => ?_)) | (with_reducible refine pfM (fun _ => ?_)) | (with_reducible refine jnM ?_) | (with_reducible exact idM) | (with_reducible refine anM ?_ ?_) | (with_reducible refine imM ?_) | (with_reducible refine cpM (fun _ => ?_)) | (with_reducible refine rsM (fun _ => ?_)))
theorem m_p8_isPart {x1 : Int} {h : HP} {Q Q2 : Int → Prop} (hQ : ∀ (y0 : Int), Q y0 → Q2 y0) : p8_isPart x1 h Q → p8_isPart x1 h Q2 := by
  unfold p8_isPart
  repeat' (first | (with_reducible exact hQ _) | (with_reducible refine m_p8_in (fun _ => ?_)) | (with_reducible refine brM ?_ ?_) | (with_reducible refine rdM (fun _ => ?_)) | (with_reducible refine wrM (fun _ => ?_)) | (with_reducible refine pfM (fun _ => ?_)) | (with_reducible refine jnM ?_) | (with_reducible exact idM) | (with_reducible refine anM ?_ ?_) | (with_reducible refine imM ?_) | (with_reducible refine cpM (fun _ => ?_)) | (with_reducible refine rsM (fun _ => ?_)))
theorem m_p8_part {x1 : Int} {x2 : Int} {h : HP} {Q Q2 : Int → Prop} (hQ : ∀ (y0 : Int), Q y0 → Q2 y0) : p8_part x1 x2 h Q → p8_part x1 x2 h Q2 := by
  unfold p8_part
  repeat' (first | (with_reducible exact hQ _) | (with_reducible refine m_p8_isPart (fun _ => ?_)) | (with_reducible refine brM ?_ ?_) | (with_reducible refine rdM (fun _ => ?_)) | (with_reducible refine wrM (fun _ => ?_)) | (with_reducible refine pfM (fun _ => ?_)) | (with_reducible refine jnM ?_) | (with_reducible exact idM) | (with_reducible refine anM ?_ ?_) | (with_reducible refine imM ?_) | (with_reducible refine cpM (fun _ => ?_)) | (with_reducible refine rsM (fun _ => ?_)))
theorem m_p8_hand {x1 : Int} {x2 : Int} {h : HP} {Q Q2 : Int → Prop} (hQ : ∀ (y0 : Int), Q y0 → Q2 y0) : p8_hand x1 x2 h Q → p8_hand x1 x2 h Q2 := by
  unfold p8_hand
  repeat' (first | (with_reducible exact hQ _) | (with_reducible refine m_p8_isPart (fun _ => ?_)) | (with_reducible refine m_p8_in (fun _ => ?_)) | (with_reducible refine brM ?_ ?_) | (with_reducible refine rdM (fun _ => ?_)) | (with_reducible refine wrM (fun _ => ?_)) | (with_reducible refine pfM (fun _ => ?_)) | (with_reducible refine jnM ?_) | (with_reducible exact idM) | (with_reducible refine anM ?_ ?_) | (with_reducible refine imM ?_) | (with_reducible refine cpM (fun _ => ?_)) | (with_reducible refine rsM (fun _ => ?_)))
theorem m_p8_tossNow {x1 : Int} {x2 : Int} {h : HP} {Q Q2 : HP → Prop} (hQ : ∀ (y0 : HP), Q y0 → Q2 y0) : p8_tossNow x1 x2 h Q → p8_tossNow x1 x2 h Q2 := by
  unfold p8_tossNow
  repeat' (first | (with_reducible exact hQ _) | (with_reducible refine brM ?_ ?_) | (with_reducible refine rdM (fun _ => ?_)) | (with_reducible refine wrM (fun _ => ?_)) | (with_reducible refine pfM (fun _ => ?_)) | (with_reducible refine jnM ?_) | (with_reducible exact idM) | (with_reducible refine anM ?_ ?_) | (with_reducible refine imM ?_) | (with_reducible refine cpM (fun _ => ?_)) | (with_reducible refine rsM (fun _ => ?_)))
theorem m_p8_toss {x1 : Int} {x2 : Int} {h : HP} {Q Q2 : Int → HP → Prop} (hQ : ∀ (y0 : Int) (y1 : HP), Q y0 y1 → Q2 y0 y1) : p8_toss x1 x2 h Q → p8_toss x1 x2 h Q2 := by
  unfold p8_toss
  repeat' (first | (with_reducible exact hQ _ _) | (with_reducible refine m_p8_isHouse (fun _ => ?_)) | (with_reducible refine m_p8_isPart (fun _ => ?_)) | (with_reducible refine m_p8_tossNow (fun _ => ?_)) | (with_reducible refine m_p8_countOf (fun _ => ?_)) | (with_reducible refine brM ?_ ?_) | (with_reducible refine rdM (fun _ => ?_)) | (with_reducible refine wrM (fun _ => ?_)) | (with_reducible refine pfM (fun _ => ?_)) | (with_reducible refine jnM ?_) | (with_reducible exact idM) | (with_reducible refine anM ?_ ?_) | (with_reducible refine imM ?_) | (with_reducible refine cpM (fun _ => ?_)) | (with_reducible refine rsM (fun _ => ?_)))
theorem m_p8_mayTake {x1 : Int} {x2 : Int} {h : HP} {Q Q2 : Int → Prop} (hQ : ∀ (y0 : Int), Q y0 → Q2 y0) : p8_mayTake x1 x2 h Q → p8_mayTake x1 x2 h Q2 := by
  unfold p8_mayTake
  repeat' (first | (with_reducible exact hQ _) | (with_reducible refine m_p8_countOf (fun _ => ?_)) | (with_reducible refine brM ?_ ?_) | (with_reducible refine rdM (fun _ => ?_)) | (with_reducible refine wrM (fun _ => ?_)) | (with_reducible refine pfM (fun _ => ?_)) | (with_reducible refine jnM ?_) | (with_reducible exact idM) | (with_reducible refine anM ?_ ?_) | (with_reducible refine imM ?_) | (with_reducible refine cpM (fun _ => ?_)) | (with_reducible refine rsM (fun _ => ?_)))
theorem m_p8_takeNow {x1 : Int} {x2 : Int} {h : HP} {Q Q2 : HP → Prop} (hQ : ∀ (y0 : HP), Q y0 → Q2 y0) : p8_takeNow x1 x2 h Q → p8_takeNow x1 x2 h Q2 := by
  unfold p8_takeNow
  repeat' (first | (with_reducible exact hQ _) | (with_reducible refine brM ?_ ?_) | (with_reducible refine rdM (fun _ => ?_)) | (with_reducible refine wrM (fun _ => ?_)) | (with_reducible refine pfM (fun _ => ?_)) | (with_reducible refine jnM ?_) | (with_reducible exact idM) | (with_reducible refine anM ?_ ?_) | (with_reducible refine imM ?_) | (with_reducible refine cpM (fun _ => ?_)) | (with_reducible refine rsM (fun _ => ?_)))
theorem m_p8_take {x1 : Int} {x2 : Int} {h : HP} {Q Q2 : Int → HP → Prop} (hQ : ∀ (y0 : Int) (y1 : HP), Q y0 y1 → Q2 y0 y1) : p8_take x1 x2 h Q → p8_take x1 x2 h Q2 := by
  unfold p8_take
  repeat' (first | (with_reducible exact hQ _ _) | (with_reducible refine m_p8_isHouse (fun _ => ?_)) | (with_reducible refine m_p8_isPart (fun _ => ?_)) | (with_reducible refine m_p8_mayTake (fun _ => ?_)) | (with_reducible refine m_p8_takeNow (fun _ => ?_)) | (with_reducible refine m_p8_countOf (fun _ => ?_)) | (with_reducible refine brM ?_ ?_) | (with_reducible refine rdM (fun _ => ?_)) | (with_reducible refine wrM (fun _ => ?_)) | (with_reducible refine pfM (fun _ => ?_)) | (with_reducible refine jnM ?_) | (with_reducible exact idM) | (with_reducible refine anM ?_ ?_) | (with_reducible refine imM ?_) | (with_reducible refine cpM (fun _ => ?_)) | (with_reducible refine rsM (fun _ => ?_)))
theorem m_p8_ashoreNow {x1 : Int} {h : HP} {Q Q2 : Int → HP → Prop} (hQ : ∀ (y0 : Int) (y1 : HP), Q y0 y1 → Q2 y0 y1) : p8_ashoreNow x1 h Q → p8_ashoreNow x1 h Q2 := by
  unfold p8_ashoreNow
  repeat' (first | (with_reducible exact hQ _ _) | (with_reducible refine brM ?_ ?_) | (with_reducible refine rdM (fun _ => ?_)) | (with_reducible refine wrM (fun _ => ?_)) | (with_reducible refine pfM (fun _ => ?_)) | (with_reducible refine jnM ?_) | (with_reducible exact idM) | (with_reducible refine anM ?_ ?_) | (with_reducible refine imM ?_) | (with_reducible refine cpM (fun _ => ?_)) | (with_reducible refine rsM (fun _ => ?_)))
theorem m_p8_ashore {x1 : Int} {h : HP} {Q Q2 : Int → HP → Prop} (hQ : ∀ (y0 : Int) (y1 : HP), Q y0 y1 → Q2 y0 y1) : p8_ashore x1 h Q → p8_ashore x1 h Q2 := by
  unfold p8_ashore
  repeat' (first | (with_reducible exact hQ _ _) | (with_reducible refine m_p8_isSort (fun _ => ?_)) | (with_reducible refine m_p8_ashoreNow (fun _ _ => ?_)) | (with_reducible refine brM ?_ ?_) | (with_reducible refine rdM (fun _ => ?_)) | (with_reducible refine wrM (fun _ => ?_)) | (with_reducible refine pfM (fun _ => ?_)) | (with_reducible refine jnM ?_) | (with_reducible exact idM) | (with_reducible refine anM ?_ ?_) | (with_reducible refine imM ?_) | (with_reducible refine cpM (fun _ => ?_)) | (with_reducible refine rsM (fun _ => ?_)))
theorem m_p8_gainOf {x1 : Int} {x2 : Int} {h : HP} {Q Q2 : Int → Prop} (hQ : ∀ (y0 : Int), Q y0 → Q2 y0) : p8_gainOf x1 x2 h Q → p8_gainOf x1 x2 h Q2 := by
  unfold p8_gainOf
  repeat' (first | (with_reducible exact hQ _) | (with_reducible refine m_p8_sortsOf (fun _ => ?_)) | (with_reducible refine m_p8_has (fun _ => ?_)) | (with_reducible refine brM ?_ ?_) | (with_reducible refine rdM (fun _ => ?_)) | (with_reducible refine wrM (fun _ => ?_)) | (with_reducible refine pfM (fun _ => ?_)) | (with_reducible refine jnM ?_) | (with_reducible exact idM) | (with_reducible refine anM ?_ ?_) | (with_reducible refine imM ?_) | (with_reducible refine cpM (fun _ => ?_)) | (with_reducible refine rsM (fun _ => ?_)))
theorem m_p8_size {x0 : Int} {h : HP} {Q Q2 : Int → Prop} (hQ : ∀ (y0 : Int), Q y0 → Q2 y0) : p8_size x0 h Q → p8_size x0 h Q2 := by
  unfold p8_size
  repeat' (first | (with_reducible exact hQ _) | (with_reducible refine brM ?_ ?_) | (with_reducible refine rdM (fun _ => ?_)) | (with_reducible refine wrM (fun _ => ?_)) | (with_reducible refine pfM (fun _ => ?_)) | (with_reducible refine jnM ?_) | (with_reducible exact idM) | (with_reducible refine anM ?_ ?_) | (with_reducible refine imM ?_) | (with_reducible refine cpM (fun _ => ?_)) | (with_reducible refine rsM (fun _ => ?_)))
theorem m_p8_first_L54 {x1 : Int} {x2 : Int} {h : HP} {Q Q2 : Int → Prop} (hQ : ∀ (y0 : Int), Q y0 → Q2 y0) : ∀ (fu : Nat) (a1 : Int) (a2 : Int), p8_first_L54 x1 x2 h Q fu a1 a2 → p8_first_L54 x1 x2 h Q2 fu a1 a2 := by
  intro fu
  induction fu with
  | zero => intro a1 a2 H; exact (show False from H).elim
  | succ fu ih =>
    intro a1 a2
    unfold p8_first_L54
    repeat' (first | (with_reducible exact ih _ _) | (with_reducible exact hQ _) | (with_reducible refine m_p8_mayTake (fun _ => ?_)) | (with_reducible refine m_p8_gainOf (fun _ => ?_)) | (with_reducible refine m_p8_size (fun _ => ?_)) | (with_reducible refine brM ?_ ?_) | (with_reducible refine rdM (fun _ => ?_)) | (with_reducible refine wrM (fun _ => ?_)) | (with_reducible refine pfM (fun _ => ?_)) | (with_reducible refine jnM ?_) | (with_reducible exact idM) | (with_reducible refine anM ?_ ?_) | (with_reducible refine imM ?_) | (with_reducible refine cpM (fun _ => ?_)) | (with_reducible refine rsM (fun _ => ?_)))
theorem m_p8_first {x1 : Int} {h : HP} {Q Q2 : Int → Prop} (hQ : ∀ (y0 : Int), Q y0 → Q2 y0) : p8_first x1 h Q → p8_first x1 h Q2 := by
  unfold p8_first
  repeat' (first | (with_reducible exact hQ _) | (with_reducible refine m_p8_isPart (fun _ => ?_)) | (with_reducible refine m_p8_first_L54 (fun _ => ?_) _ _ _) | (with_reducible refine brM ?_ ?_) | (with_reducible refine rdM (fun _ => ?_)) | (with_reducible refine wrM (fun _ => ?_)) | (with_reducible refine pfM (fun _ => ?_)) | (with_reducible refine jnM ?_) | (with_reducible exact idM) | (with_reducible refine anM ?_ ?_) | (with_reducible refine imM ?_) | (with_reducible refine cpM (fun _ => ?_)) | (with_reducible refine rsM (fun _ => ?_)))
theorem m_p8_bestTake_L7 {x1 : Int} {h : HP} {Q Q2 : Int → Prop} (hQ : ∀ (y0 : Int), Q y0 → Q2 y0) : ∀ (fu : Nat) (a1 : Int) (a2 : Int) (a3 : Int), p8_bestTake_L7 x1 h Q fu a1 a2 a3 → p8_bestTake_L7 x1 h Q2 fu a1 a2 a3 := by
  intro fu
  induction fu with
  | zero => intro a1 a2 a3 H; exact (show False from H).elim
  | succ fu ih =>
    intro a1 a2 a3
    unfold p8_bestTake_L7
    repeat' (first | (with_reducible exact ih _ _ _) | (with_reducible exact hQ _) | (with_reducible refine m_p8_mayTake (fun _ => ?_)) | (with_reducible refine m_p8_gainOf (fun _ => ?_)) | (with_reducible refine brM ?_ ?_) | (with_reducible refine rdM (fun _ => ?_)) | (with_reducible refine wrM (fun _ => ?_)) | (with_reducible refine pfM (fun _ => ?_)) | (with_reducible refine jnM ?_) | (with_reducible exact idM) | (with_reducible refine anM ?_ ?_) | (with_reducible refine imM ?_) | (with_reducible refine cpM (fun _ => ?_)) | (with_reducible refine rsM (fun _ => ?_)))
theorem m_p8_bestTake {x1 : Int} {h : HP} {Q Q2 : Int → Prop} (hQ : ∀ (y0 : Int), Q y0 → Q2 y0) : p8_bestTake x1 h Q → p8_bestTake x1 h Q2 := by
  unfold p8_bestTake
  repeat' (first | (with_reducible exact hQ _) | (with_reducible refine m_p8_bestTake_L7 (fun _ => ?_) _ _ _ _) | (with_reducible refine brM ?_ ?_) | (with_reducible refine rdM (fun _ => ?_)) | (with_reducible refine wrM (fun _ => ?_)) | (with_reducible refine pfM (fun _ => ?_)) | (with_reducible refine jnM ?_) | (with_reducible exact idM) | (with_reducible refine anM ?_ ?_) | (with_reducible refine imM ?_) | (with_reducible refine cpM (fun _ => ?_)) | (with_reducible refine rsM (fun _ => ?_)))
theorem m_p8_isIdle_L5 {x1 : Int} {x2 : Int} {h : HP} {E55 E552 : Int → Prop} (hE55 : ∀ (y0 : Int), E55 y0 → E552 y0) : ∀ (fu : Nat) (a1 : Int) (a2 : Int), p8_isIdle_L5 x1 x2 h E55 fu a1 a2 → p8_isIdle_L5 x1 x2 h E552 fu a1 a2 := by
  intro fu
  induction fu with
  | zero => intro a1 a2 H; exact (show False from H).elim
  | succ fu ih =>
    intro a1 a2
    unfold p8_isIdle_L5
    repeat' (first | (with_reducible exact ih _ _) | (with_reducible exact hE55 _) | (with_reducible refine brM ?_ ?_) | (with_reducible refine rdM (fun _ => ?_)) | (with_reducible refine wrM (fun _ => ?_)) | (with_reducible refine pfM (fun _ => ?_)) | (with_reducible refine jnM ?_) | (with_reducible exact idM) | (with_reducible refine anM ?_ ?_) | (with_reducible refine imM ?_) | (with_reducible refine cpM (fun _ => ?_)) | (with_reducible refine rsM (fun _ => ?_)))
theorem m_p8_isIdle {x1 : Int} {x2 : Int} {h : HP} {Q Q2 : Int → Prop} (hQ : ∀ (y0 : Int), Q y0 → Q2 y0) : p8_isIdle x1 x2 h Q → p8_isIdle x1 x2 h Q2 := by
  unfold p8_isIdle
  repeat' (first | (with_reducible exact hQ _) | (with_reducible refine m_p8_isIdle_L5 (fun _ => ?_) _ _ _) | (with_reducible refine brM ?_ ?_) | (with_reducible refine rdM (fun _ => ?_)) | (with_reducible refine wrM (fun _ => ?_)) | (with_reducible refine pfM (fun _ => ?_)) | (with_reducible refine jnM ?_) | (with_reducible exact idM) | (with_reducible refine anM ?_ ?_) | (with_reducible refine imM ?_) | (with_reducible refine cpM (fun _ => ?_)) | (with_reducible refine rsM (fun _ => ?_)))
theorem m_p8_weekNow_L34 {x1 : Int} {x2 : Int} {E77 E772 : HP → Prop} (hE77 : ∀ (y0 : HP), E77 y0 → E772 y0) : ∀ (fu : Nat) (a1 : HP) (a2 : Int), p8_weekNow_L34 x1 x2 E77 fu a1 a2 → p8_weekNow_L34 x1 x2 E772 fu a1 a2 := by
  intro fu
  induction fu with
  | zero => intro a1 a2 H; exact (show False from H).elim
  | succ fu ih =>
    intro a1 a2
    unfold p8_weekNow_L34
    repeat' (first | (with_reducible exact ih _ _) | (with_reducible exact hE77 _) | (with_reducible refine m_p8_isIdle (fun _ => ?_)) | (with_reducible refine m_p8_tossNow (fun _ => ?_)) | (with_reducible refine brM ?_ ?_) | (with_reducible refine rdM (fun _ => ?_)) | (with_reducible refine wrM (fun _ => ?_)) | (with_reducible refine pfM (fun _ => ?_)) | (with_reducible refine jnM ?_) | (with_reducible exact idM) | (with_reducible refine anM ?_ ?_) | (with_reducible refine imM ?_) | (with_reducible refine cpM (fun _ => ?_)) | (with_reducible refine rsM (fun _ => ?_)))
theorem m_p8_weekNow_L4 {E83 E832 : HP → Int → Prop} (hE83 : ∀ (y0 : HP) (y1 : Int), E83 y0 y1 → E832 y0 y1) : ∀ (fu : Nat) (a1 : HP) (a2 : Int) (a3 : Int), p8_weekNow_L4 E83 fu a1 a2 a3 → p8_weekNow_L4 E832 fu a1 a2 a3 := by
  intro fu
  induction fu with
  | zero => intro a1 a2 a3 H; exact (show False from H).elim
  | succ fu ih =>
    intro a1 a2 a3
    unfold p8_weekNow_L4
    repeat' (first | (with_reducible exact ih _ _ _) | (with_reducible exact hE83 _ _) | (with_reducible refine m_p8_bestTake (fun _ => ?_)) | (with_reducible refine m_p8_weekNow_L34 (fun _ => ?_) _ _ _) | (with_reducible refine m_p8_takeNow (fun _ => ?_)) | (with_reducible refine brM ?_ ?_) | (with_reducible refine rdM (fun _ => ?_)) | (with_reducible refine wrM (fun _ => ?_)) | (with_reducible refine pfM (fun _ => ?_)) | (with_reducible refine jnM ?_) | (with_reducible exact idM) | (with_reducible refine anM ?_ ?_) | (with_reducible refine imM ?_) | (with_reducible refine cpM (fun _ => ?_)) | (with_reducible refine rsM (fun _ => ?_)))
theorem m_p8_weekNow {h : HP} {Q Q2 : Int → HP → Prop} (hQ : ∀ (y0 : Int) (y1 : HP), Q y0 y1 → Q2 y0 y1) : p8_weekNow h Q → p8_weekNow h Q2 := by
  unfold p8_weekNow
  repeat' (first | (with_reducible exact hQ _ _) | (with_reducible refine m_p8_weekNow_L4 (fun _ _ => ?_) _ _ _ _) | (with_reducible refine brM ?_ ?_) | (with_reducible refine rdM (fun _ => ?_)) | (with_reducible refine wrM (fun _ => ?_)) | (with_reducible refine pfM (fun _ => ?_)) | (with_reducible refine jnM ?_) | (with_reducible exact idM) | (with_reducible refine anM ?_ ?_) | (with_reducible refine imM ?_) | (with_reducible refine cpM (fun _ => ?_)) | (with_reducible refine rsM (fun _ => ?_)))
theorem m_p8_week_L19 {x1 : Int} {Q Q2 : Int → HP → Prop} (hQ : ∀ (y0 : Int) (y1 : HP), Q y0 y1 → Q2 y0 y1) : ∀ (fu : Nat) (a1 : HP) (a2 : Int) (a3 : Int), p8_week_L19 x1 Q fu a1 a2 a3 → p8_week_L19 x1 Q2 fu a1 a2 a3 := by
  intro fu
  induction fu with
  | zero => intro a1 a2 a3 H; exact (show False from H).elim
  | succ fu ih =>
    intro a1 a2 a3
    unfold p8_week_L19
    repeat' (first | (with_reducible exact ih _ _ _) | (with_reducible exact hQ _ _) | (with_reducible refine m_p8_weekNow (fun _ _ => ?_)) | (with_reducible refine brM ?_ ?_) | (with_reducible refine rdM (fun _ => ?_)) | (with_reducible refine wrM (fun _ => ?_)) | (with_reducible refine pfM (fun _ => ?_)) | (with_reducible refine jnM ?_) | (with_reducible exact idM) | (with_reducible refine anM ?_ ?_) | (with_reducible refine imM ?_) | (with_reducible refine cpM (fun _ => ?_)) | (with_reducible refine rsM (fun _ => ?_)))
theorem m_p8_week {x1 : Int} {h : HP} {Q Q2 : Int → HP → Prop} (hQ : ∀ (y0 : Int) (y1 : HP), Q y0 y1 → Q2 y0 y1) : p8_week x1 h Q → p8_week x1 h Q2 := by
  unfold p8_week
  repeat' (first | (with_reducible exact hQ _ _) | (with_reducible refine m_p8_in (fun _ => ?_)) | (with_reducible refine m_p8_week_L19 (fun _ _ => ?_) _ _ _ _) | (with_reducible refine brM ?_ ?_) | (with_reducible refine rdM (fun _ => ?_)) | (with_reducible refine wrM (fun _ => ?_)) | (with_reducible refine pfM (fun _ => ?_)) | (with_reducible refine jnM ?_) | (with_reducible exact idM) | (with_reducible refine anM ?_ ?_) | (with_reducible refine imM ?_) | (with_reducible refine cpM (fun _ => ?_)) | (with_reducible refine rsM (fun _ => ?_)))
theorem m_p8_draw {x1 : Int} {h : HP} {Q Q2 : Int → HP → Prop} (hQ : ∀ (y0 : Int) (y1 : HP), Q y0 y1 → Q2 y0 y1) : p8_draw x1 h Q → p8_draw x1 h Q2 := by
  unfold p8_draw
  repeat' (first | (with_reducible exact hQ _ _) | (with_reducible refine brM ?_ ?_) | (with_reducible refine rdM (fun _ => ?_)) | (with_reducible refine wrM (fun _ => ?_)) | (with_reducible refine pfM (fun _ => ?_)) | (with_reducible refine jnM ?_) | (with_reducible exact idM) | (with_reducible refine anM ?_ ?_) | (with_reducible refine imM ?_) | (with_reducible refine cpM (fun _ => ?_)) | (with_reducible refine rsM (fun _ => ?_)))
theorem m_p8_drift_L29 {x1 : Int} {Q Q2 : Int → HP → Prop} (hQ : ∀ (y0 : Int) (y1 : HP), Q y0 y1 → Q2 y0 y1) : ∀ (fu : Nat) (a1 : HP) (a2 : Int) (a3 : Int), p8_drift_L29 x1 Q fu a1 a2 a3 → p8_drift_L29 x1 Q2 fu a1 a2 a3 := by
  intro fu
  induction fu with
  | zero => intro a1 a2 a3 H; exact (show False from H).elim
  | succ fu ih =>
    intro a1 a2 a3
    unfold p8_drift_L29
    repeat' (first | (with_reducible exact ih _ _ _) | (with_reducible exact hQ _ _) | (with_reducible refine m_p8_weekNow (fun _ _ => ?_)) | (with_reducible refine m_p8_draw (fun _ _ => ?_)) | (with_reducible refine m_p8_ashoreNow (fun _ _ => ?_)) | (with_reducible refine brM ?_ ?_) | (with_reducible refine rdM (fun _ => ?_)) | (with_reducible refine wrM (fun _ => ?_)) | (with_reducible refine pfM (fun _ => ?_)) | (with_reducible refine jnM ?_) | (with_reducible exact idM) | (with_reducible refine anM ?_ ?_) | (with_reducible refine imM ?_) | (with_reducible refine cpM (fun _ => ?_)) | (with_reducible refine rsM (fun _ => ?_)))
theorem m_p8_drift {x1 : Int} {h : HP} {Q Q2 : Int → HP → Prop} (hQ : ∀ (y0 : Int) (y1 : HP), Q y0 y1 → Q2 y0 y1) : p8_drift x1 h Q → p8_drift x1 h Q2 := by
  unfold p8_drift
  repeat' (first | (with_reducible exact hQ _ _) | (with_reducible refine m_p8_in (fun _ => ?_)) | (with_reducible refine m_p8_drift_L29 (fun _ _ => ?_) _ _ _ _) | (with_reducible refine brM ?_ ?_) | (with_reducible refine rdM (fun _ => ?_)) | (with_reducible refine wrM (fun _ => ?_)) | (with_reducible refine pfM (fun _ => ?_)) | (with_reducible refine jnM ?_) | (with_reducible exact idM) | (with_reducible refine anM ?_ ?_) | (with_reducible refine imM ?_) | (with_reducible refine cpM (fun _ => ?_)) | (with_reducible refine rsM (fun _ => ?_)))
theorem m_p8_gain {x1 : Int} {x2 : Int} {h : HP} {Q Q2 : Int → Prop} (hQ : ∀ (y0 : Int), Q y0 → Q2 y0) : p8_gain x1 x2 h Q → p8_gain x1 x2 h Q2 := by
  unfold p8_gain
  repeat' (first | (with_reducible exact hQ _) | (with_reducible refine m_p8_isHouse (fun _ => ?_)) | (with_reducible refine m_p8_isPart (fun _ => ?_)) | (with_reducible refine m_p8_gainOf (fun _ => ?_)) | (with_reducible refine brM ?_ ?_) | (with_reducible refine rdM (fun _ => ?_)) | (with_reducible refine wrM (fun _ => ?_)) | (with_reducible refine pfM (fun _ => ?_)) | (with_reducible refine jnM ?_) | (with_reducible exact idM) | (with_reducible refine anM ?_ ?_) | (with_reducible refine imM ?_) | (with_reducible refine cpM (fun _ => ?_)) | (with_reducible refine rsM (fun _ => ?_)))
theorem m_p8_save_L8 {x2 : Int} {E85 E852 : HP → Prop} (hE85 : ∀ (y0 : HP), E85 y0 → E852 y0) : ∀ (fu : Nat) (a1 : HP) (a2 : Int), p8_save_L8 x2 E85 fu a1 a2 → p8_save_L8 x2 E852 fu a1 a2 := by
  intro fu
  induction fu with
  | zero => intro a1 a2 H; exact (show False from H).elim
  | succ fu ih =>
    intro a1 a2
    unfold p8_save_L8
    repeat' (first | (with_reducible exact ih _ _) | (with_reducible exact hE85 _) | (with_reducible refine brM ?_ ?_) | (with_reducible refine rdM (fun _ => ?_)) | (with_reducible refine wrM (fun _ => ?_)) | (with_reducible refine pfM (fun _ => ?_)) | (with_reducible refine jnM ?_) | (with_reducible exact idM) | (with_reducible refine anM ?_ ?_) | (with_reducible refine imM ?_) | (with_reducible refine cpM (fun _ => ?_)) | (with_reducible refine rsM (fun _ => ?_)))
theorem m_p8_save_L87 {x2 : Int} {E118 E1182 : HP → Prop} (hE118 : ∀ (y0 : HP), E118 y0 → E1182 y0) : ∀ (fu : Nat) (a1 : HP) (a2 : Int), p8_save_L87 x2 E118 fu a1 a2 → p8_save_L87 x2 E1182 fu a1 a2 := by
  intro fu
  induction fu with
  | zero => intro a1 a2 H; exact (show False from H).elim
  | succ fu ih =>
    intro a1 a2
    unfold p8_save_L87
    repeat' (first | (with_reducible exact ih _ _) | (with_reducible exact hE118 _) | (with_reducible refine brM ?_ ?_) | (with_reducible refine rdM (fun _ => ?_)) | (with_reducible refine wrM (fun _ => ?_)) | (with_reducible refine pfM (fun _ => ?_)) | (with_reducible refine jnM ?_) | (with_reducible exact idM) | (with_reducible refine anM ?_ ?_) | (with_reducible refine imM ?_) | (with_reducible refine cpM (fun _ => ?_)) | (with_reducible refine rsM (fun _ => ?_)))
theorem m_p8_save {x1 : Int} {h : HP} {Q Q2 : HP → Prop} (hQ : ∀ (y0 : HP), Q y0 → Q2 y0) : p8_save x1 h Q → p8_save x1 h Q2 := by
  unfold p8_save
  repeat' (first | (with_reducible exact hQ _) | (with_reducible refine m_p8_save_L8 (fun _ => ?_) _ _ _) | (with_reducible refine m_p8_save_L87 (fun _ => ?_) _ _ _) | (with_reducible refine brM ?_ ?_) | (with_reducible refine rdM (fun _ => ?_)) | (with_reducible refine wrM (fun _ => ?_)) | (with_reducible refine pfM (fun _ => ?_)) | (with_reducible refine jnM ?_) | (with_reducible exact idM) | (with_reducible refine anM ?_ ?_) | (with_reducible refine imM ?_) | (with_reducible refine cpM (fun _ => ?_)) | (with_reducible refine rsM (fun _ => ?_)))
theorem m_p8_load_L8 {x2 : Int} {E85 E852 : HP → Prop} (hE85 : ∀ (y0 : HP), E85 y0 → E852 y0) : ∀ (fu : Nat) (a1 : HP) (a2 : Int), p8_load_L8 x2 E85 fu a1 a2 → p8_load_L8 x2 E852 fu a1 a2 := by
  intro fu
  induction fu with
  | zero => intro a1 a2 H; exact (show False from H).elim
  | succ fu ih =>
    intro a1 a2
    unfold p8_load_L8
    repeat' (first | (with_reducible exact ih _ _) | (with_reducible exact hE85 _) | (with_reducible refine brM ?_ ?_) | (with_reducible refine rdM (fun _ => ?_)) | (with_reducible refine wrM (fun _ => ?_)) | (with_reducible refine pfM (fun _ => ?_)) | (with_reducible refine jnM ?_) | (with_reducible exact idM) | (with_reducible refine anM ?_ ?_) | (with_reducible refine imM ?_) | (with_reducible refine cpM (fun _ => ?_)) | (with_reducible refine rsM (fun _ => ?_)))
theorem m_p8_load_L87 {x2 : Int} {E118 E1182 : HP → Prop} (hE118 : ∀ (y0 : HP), E118 y0 → E1182 y0) : ∀ (fu : Nat) (a1 : HP) (a2 : Int), p8_load_L87 x2 E118 fu a1 a2 → p8_load_L87 x2 E1182 fu a1 a2 := by
  intro fu
  induction fu with
  | zero => intro a1 a2 H; exact (show False from H).elim
  | succ fu ih =>
    intro a1 a2
    unfold p8_load_L87
    repeat' (first | (with_reducible exact ih _ _) | (with_reducible exact hE118 _) | (with_reducible refine brM ?_ ?_) | (with_reducible refine rdM (fun _ => ?_)) | (with_reducible refine wrM (fun _ => ?_)) | (with_reducible refine pfM (fun _ => ?_)) | (with_reducible refine jnM ?_) | (with_reducible exact idM) | (with_reducible refine anM ?_ ?_) | (with_reducible refine imM ?_) | (with_reducible refine cpM (fun _ => ?_)) | (with_reducible refine rsM (fun _ => ?_)))
theorem m_p8_load {x1 : Int} {h : HP} {Q Q2 : HP → Prop} (hQ : ∀ (y0 : HP), Q y0 → Q2 y0) : p8_load x1 h Q → p8_load x1 h Q2 := by
  unfold p8_load
  repeat' (first | (with_reducible exact hQ _) | (with_reducible refine m_p8_load_L8 (fun _ => ?_) _ _ _) | (with_reducible refine m_p8_load_L87 (fun _ => ?_) _ _ _) | (with_reducible refine brM ?_ ?_) | (with_reducible refine rdM (fun _ => ?_)) | (with_reducible refine wrM (fun _ => ?_)) | (with_reducible refine pfM (fun _ => ?_)) | (with_reducible refine jnM ?_) | (with_reducible exact idM) | (with_reducible refine anM ?_ ?_) | (with_reducible refine imM ?_) | (with_reducible refine cpM (fun _ => ?_)) | (with_reducible refine rsM (fun _ => ?_)))
theorem m_p8_down_L59 {x1 : Int} {x2 : Int} {x3 : Int} {E77 E772 : HP → Prop} (hE77 : ∀ (y0 : HP), E77 y0 → E772 y0) : ∀ (fu : Nat) (a1 : HP) (a2 : Int), p8_down_L59 x1 x2 x3 E77 fu a1 a2 → p8_down_L59 x1 x2 x3 E772 fu a1 a2 := by
  intro fu
  induction fu with
  | zero => intro a1 a2 H; exact (show False from H).elim
  | succ fu ih =>
    intro a1 a2
    unfold p8_down_L59
    repeat' (first | (with_reducible exact ih _ _) | (with_reducible exact hE77 _) | (with_reducible refine m_p8_weekNow (fun _ _ => ?_)) | (with_reducible refine brM ?_ ?_) | (with_reducible refine rdM (fun _ => ?_)) | (with_reducible refine wrM (fun _ => ?_)) | (with_reducible refine pfM (fun _ => ?_)) | (with_reducible refine jnM ?_) | (with_reducible exact idM) | (with_reducible refine anM ?_ ?_) | (with_reducible refine imM ?_) | (with_reducible refine cpM (fun _ => ?_)) | (with_reducible refine rsM (fun _ => ?_)))
theorem m_p8_down_L80 {x1 : Int} {x2 : Int} {x3 : Int} {E108 E1082 : HP → Prop} (hE108 : ∀ (y0 : HP), E108 y0 → E1082 y0) : ∀ (fu : Nat) (a1 : HP) (a2 : Int), p8_down_L80 x1 x2 x3 E108 fu a1 a2 → p8_down_L80 x1 x2 x3 E1082 fu a1 a2 := by
  intro fu
  induction fu with
  | zero => intro a1 a2 H; exact (show False from H).elim
  | succ fu ih =>
    intro a1 a2
    unfold p8_down_L80
    repeat' (first | (with_reducible exact ih _ _) | (with_reducible exact hE108 _) | (with_reducible refine m_p8_wealthOf (fun _ => ?_)) | (with_reducible refine brM ?_ ?_) | (with_reducible refine rdM (fun _ => ?_)) | (with_reducible refine wrM (fun _ => ?_)) | (with_reducible refine pfM (fun _ => ?_)) | (with_reducible refine jnM ?_) | (with_reducible exact idM) | (with_reducible refine anM ?_ ?_) | (with_reducible refine imM ?_) | (with_reducible refine cpM (fun _ => ?_)) | (with_reducible refine rsM (fun _ => ?_)))
theorem m_p8_down_L123 {x2 : Int} {x3 : Int} {E141 E1412 : HP → Prop} (hE141 : ∀ (y0 : HP), E141 y0 → E1412 y0) : ∀ (fu : Nat) (a1 : HP) (a2 : Int), p8_down_L123 x2 x3 E141 fu a1 a2 → p8_down_L123 x2 x3 E1412 fu a1 a2 := by
  intro fu
  induction fu with
  | zero => intro a1 a2 H; exact (show False from H).elim
  | succ fu ih =>
    intro a1 a2
    unfold p8_down_L123
    repeat' (first | (with_reducible exact ih _ _) | (with_reducible exact hE141 _) | (with_reducible refine m_p8_weekNow (fun _ _ => ?_)) | (with_reducible refine brM ?_ ?_) | (with_reducible refine rdM (fun _ => ?_)) | (with_reducible refine wrM (fun _ => ?_)) | (with_reducible refine pfM (fun _ => ?_)) | (with_reducible refine jnM ?_) | (with_reducible exact idM) | (with_reducible refine anM ?_ ?_) | (with_reducible refine imM ?_) | (with_reducible refine cpM (fun _ => ?_)) | (with_reducible refine rsM (fun _ => ?_)))
theorem m_p8_down_L147 {x3 : Int} {h : HP} {E196 E1962 : Int → Prop} (hE196 : ∀ (y0 : Int), E196 y0 → E1962 y0) : ∀ (fu : Nat) (a1 : Int) (a2 : Int), p8_down_L147 x3 h E196 fu a1 a2 → p8_down_L147 x3 h E1962 fu a1 a2 := by
  intro fu
  induction fu with
  | zero => intro a1 a2 H; exact (show False from H).elim
  | succ fu ih =>
    intro a1 a2
    unfold p8_down_L147
    repeat' (first | (with_reducible exact ih _ _) | (with_reducible exact hE196 _) | (with_reducible refine m_p8_wealthOf (fun _ => ?_)) | (with_reducible refine brM ?_ ?_) | (with_reducible refine rdM (fun _ => ?_)) | (with_reducible refine wrM (fun _ => ?_)) | (with_reducible refine pfM (fun _ => ?_)) | (with_reducible refine jnM ?_) | (with_reducible exact idM) | (with_reducible refine anM ?_ ?_) | (with_reducible refine imM ?_) | (with_reducible refine cpM (fun _ => ?_)) | (with_reducible refine rsM (fun _ => ?_)))
theorem m_p8_down {x1 : Int} {x2 : Int} {x3 : Int} {h : HP} {Q Q2 : Int → HP → Prop} (hQ : ∀ (y0 : Int) (y1 : HP), Q y0 y1 → Q2 y0 y1) : p8_down x1 x2 x3 h Q → p8_down x1 x2 x3 h Q2 := by
  unfold p8_down
  repeat' (first | (with_reducible exact hQ _ _) | (with_reducible refine m_p8_isSort (fun _ => ?_)) | (with_reducible refine m_p8_in (fun _ => ?_)) | (with_reducible refine m_p8_save (fun _ => ?_)) | (with_reducible refine m_p8_down_L59 (fun _ => ?_) _ _ _) | (with_reducible refine m_p8_down_L80 (fun _ => ?_) _ _ _) | (with_reducible refine m_p8_load (fun _ => ?_)) | (with_reducible refine m_p8_ashoreNow (fun _ _ => ?_)) | (with_reducible refine m_p8_down_L123 (fun _ => ?_) _ _ _) | (with_reducible refine m_p8_down_L147 (fun _ => ?_) _ _ _) | (with_reducible refine m_p8_isHouse (fun _ => ?_)) | (with_reducible refine brM ?_ ?_) | (with_reducible refine rdM (fun _ => ?_)) | (with_reducible refine wrM (fun _ => ?_)) | (with_reducible refine pfM (fun _ => ?_)) | (with_reducible refine jnM ?_) | (with_reducible exact idM) | (with_reducible refine anM ?_ ?_) | (with_reducible refine imM ?_) | (with_reducible refine cpM (fun _ => ?_)) | (with_reducible refine rsM (fun _ => ?_)))
theorem m_p8_fromOf {x1 : Int} {h : HP} {Q Q2 : Int → Prop} (hQ : ∀ (y0 : Int), Q y0 → Q2 y0) : p8_fromOf x1 h Q → p8_fromOf x1 h Q2 := by
  unfold p8_fromOf
  repeat' (first | (with_reducible exact hQ _) | (with_reducible refine brM ?_ ?_) | (with_reducible refine rdM (fun _ => ?_)) | (with_reducible refine wrM (fun _ => ?_)) | (with_reducible refine pfM (fun _ => ?_)) | (with_reducible refine jnM ?_) | (with_reducible exact idM) | (with_reducible refine anM ?_ ?_) | (with_reducible refine imM ?_) | (with_reducible refine cpM (fun _ => ?_)) | (with_reducible refine rsM (fun _ => ?_)))
theorem m_p8_betterBy_L13 {x1 : Int} {x3 : Int} {h : HP} {E63 E632 : Int → Prop} (hE63 : ∀ (y0 : Int), E63 y0 → E632 y0) : ∀ (fu : Nat) (a1 : Int) (a2 : Int), p8_betterBy_L13 x1 x3 h E63 fu a1 a2 → p8_betterBy_L13 x1 x3 h E632 fu a1 a2 := by
  intro fu
  induction fu with
  | zero => intro a1 a2 H; exact (show False from H).elim
  | succ fu ih =>
    intro a1 a2
    unfold p8_betterBy_L13
    repeat' (first | (with_reducible exact ih _ _) | (with_reducible exact hE63 _) | (with_reducible refine brM ?_ ?_) | (with_reducible refine rdM (fun _ => ?_)) | (with_reducible refine wrM (fun _ => ?_)) | (with_reducible refine pfM (fun _ => ?_)) | (with_reducible refine jnM ?_) | (with_reducible exact idM) | (with_reducible refine anM ?_ ?_) | (with_reducible refine imM ?_) | (with_reducible refine cpM (fun _ => ?_)) | (with_reducible refine rsM (fun _ => ?_)))
theorem m_p8_betterBy {x1 : Int} {x2 : Int} {x3 : Int} {h : HP} {Q Q2 : Int → Prop} (hQ : ∀ (y0 : Int), Q y0 → Q2 y0) : p8_betterBy x1 x2 x3 h Q → p8_betterBy x1 x2 x3 h Q2 := by
  unfold p8_betterBy
  repeat' (first | (with_reducible exact hQ _) | (with_reducible refine m_p8_betterBy_L13 (fun _ => ?_) _ _ _) | (with_reducible refine m_p8_worthOf (fun _ => ?_)) | (with_reducible refine m_p8_wealthOf (fun _ => ?_)) | (with_reducible refine brM ?_ ?_) | (with_reducible refine rdM (fun _ => ?_)) | (with_reducible refine wrM (fun _ => ?_)) | (with_reducible refine pfM (fun _ => ?_)) | (with_reducible refine jnM ?_) | (with_reducible exact idM) | (with_reducible refine anM ?_ ?_) | (with_reducible refine imM ?_) | (with_reducible refine cpM (fun _ => ?_)) | (with_reducible refine rsM (fun _ => ?_)))
theorem m_p8_chain_L21 {x1 : Int} {x2 : Int} {E55 E552 : HP → Prop} (hE55 : ∀ (y0 : HP), E55 y0 → E552 y0) : ∀ (fu : Nat) (a1 : HP) (a2 : Int), p8_chain_L21 x1 x2 E55 fu a1 a2 → p8_chain_L21 x1 x2 E552 fu a1 a2 := by
  intro fu
  induction fu with
  | zero => intro a1 a2 H; exact (show False from H).elim
  | succ fu ih =>
    intro a1 a2
    unfold p8_chain_L21
    repeat' (first | (with_reducible exact ih _ _) | (with_reducible exact hE55 _) | (with_reducible refine brM ?_ ?_) | (with_reducible refine rdM (fun _ => ?_)) | (with_reducible refine wrM (fun _ => ?_)) | (with_reducible refine pfM (fun _ => ?_)) | (with_reducible refine jnM ?_) | (with_reducible exact idM) | (with_reducible refine anM ?_ ?_) | (with_reducible refine imM ?_) | (with_reducible refine cpM (fun _ => ?_)) | (with_reducible refine rsM (fun _ => ?_)))
theorem m_p8_chain_L68 {x1 : Int} {x2 : Int} {x3 : Int} {h : HP} {E117 E1172 : Prop} {Q Q2 : Int → HP → Prop} (hE117 : E117 → E1172) (hQ : ∀ (y0 : Int) (y1 : HP), Q y0 y1 → Q2 y0 y1) : ∀ (fu : Nat) (a1 : Int), p8_chain_L68 x1 x2 x3 h E117 Q fu a1 → p8_chain_L68 x1 x2 x3 h E1172 Q2 fu a1 := by
  intro fu
  induction fu with
  | zero => intro a1 H; exact (show False from H).elim
  | succ fu ih =>
    intro a1
    unfold p8_chain_L68
    repeat' (first | (with_reducible exact ih _) | (with_reducible exact hE117) | (with_reducible exact hQ _ _) | (with_reducible refine m_p8_fromOf (fun _ => ?_)) | (with_reducible refine brM ?_ ?_) | (with_reducible refine rdM (fun _ => ?_)) | (with_reducible refine wrM (fun _ => ?_)) | (with_reducible refine pfM (fun _ => ?_)) | (with_reducible refine jnM ?_) | (with_reducible exact idM) | (with_reducible refine anM ?_ ?_) | (with_reducible refine imM ?_) | (with_reducible refine cpM (fun _ => ?_)) | (with_reducible refine rsM (fun _ => ?_)))
theorem m_p8_chain_L132 {x1 : Int} {x2 : Int} {x3 : Int} {x4 : Int} {E245 E2452 : HP → Prop} (hE245 : ∀ (y0 : HP), E245 y0 → E2452 y0) : ∀ (fu : Nat) (a1 : HP) (a2 : Int), p8_chain_L132 x1 x2 x3 x4 E245 fu a1 a2 → p8_chain_L132 x1 x2 x3 x4 E2452 fu a1 a2 := by
  intro fu
  induction fu with
  | zero => intro a1 a2 H; exact (show False from H).elim
  | succ fu ih =>
    intro a1 a2
    unfold p8_chain_L132
    repeat' (first | (with_reducible exact ih _ _) | (with_reducible exact hE245 _) | (with_reducible refine m_p8_fromOf (fun _ => ?_)) | (with_reducible refine m_p8_betterBy (fun _ => ?_)) | (with_reducible refine brM ?_ ?_) | (with_reducible refine rdM (fun _ => ?_)) | (with_reducible refine wrM (fun _ => ?_)) | (with_reducible refine pfM (fun _ => ?_)) | (with_reducible refine jnM ?_) | (with_reducible exact idM) | (with_reducible refine anM ?_ ?_) | (with_reducible refine imM ?_) | (with_reducible refine cpM (fun _ => ?_)) | (with_reducible refine rsM (fun _ => ?_)))
theorem m_p8_chain_L120 {x1 : Int} {x2 : Int} {x3 : Int} {E251 E2512 : HP → Prop} (hE251 : ∀ (y0 : HP), E251 y0 → E2512 y0) : ∀ (fu : Nat) (a1 : HP) (a2 : Int), p8_chain_L120 x1 x2 x3 E251 fu a1 a2 → p8_chain_L120 x1 x2 x3 E2512 fu a1 a2 := by
  intro fu
  induction fu with
  | zero => intro a1 a2 H; exact (show False from H).elim
  | succ fu ih =>
    intro a1 a2
    unfold p8_chain_L120
    repeat' (first | (with_reducible exact ih _ _) | (with_reducible exact hE251 _) | (with_reducible refine m_p8_chain_L132 (fun _ => ?_) _ _ _) | (with_reducible refine brM ?_ ?_) | (with_reducible refine rdM (fun _ => ?_)) | (with_reducible refine wrM (fun _ => ?_)) | (with_reducible refine pfM (fun _ => ?_)) | (with_reducible refine jnM ?_) | (with_reducible exact idM) | (with_reducible refine anM ?_ ?_) | (with_reducible refine imM ?_) | (with_reducible refine cpM (fun _ => ?_)) | (with_reducible refine rsM (fun _ => ?_)))
theorem m_p8_chain_L57 {x1 : Int} {x2 : Int} {Q Q2 : Int → HP → Prop} (hQ : ∀ (y0 : Int) (y1 : HP), Q y0 y1 → Q2 y0 y1) : ∀ (fu : Nat) (a1 : HP) (a2 : Int), p8_chain_L57 x1 x2 Q fu a1 a2 → p8_chain_L57 x1 x2 Q2 fu a1 a2 := by
  intro fu
  induction fu with
  | zero => intro a1 a2 H; exact (show False from H).elim
  | succ fu ih =>
    intro a1 a2
    unfold p8_chain_L57
    repeat' (first | (with_reducible exact ih _ _) | (with_reducible exact hQ _ _) | (with_reducible refine m_p8_chain_L68 ?_ (fun _ _ => ?_) _ _) | (with_reducible refine m_p8_chain_L120 (fun _ => ?_) _ _ _) | (with_reducible refine brM ?_ ?_) | (with_reducible refine rdM (fun _ => ?_)) | (with_reducible refine wrM (fun _ => ?_)) | (with_reducible refine pfM (fun _ => ?_)) | (with_reducible refine jnM ?_) | (with_reducible exact idM) | (with_reducible refine anM ?_ ?_) | (with_reducible refine imM ?_) | (with_reducible refine cpM (fun _ => ?_)) | (with_reducible refine rsM (fun _ => ?_)))
theorem m_p8_chain {x1 : Int} {x2 : Int} {h : HP} {Q Q2 : Int → HP → Prop} (hQ : ∀ (y0 : Int) (y1 : HP), Q y0 y1 → Q2 y0 y1) : p8_chain x1 x2 h Q → p8_chain x1 x2 h Q2 := by
  unfold p8_chain
  repeat' (first | (with_reducible exact hQ _ _) | (with_reducible refine m_p8_isHouse (fun _ => ?_)) | (with_reducible refine m_p8_isSort (fun _ => ?_)) | (with_reducible refine m_p8_chain_L21 (fun _ => ?_) _ _ _) | (with_reducible refine m_p8_chain_L57 (fun _ _ => ?_) _ _ _) | (with_reducible refine brM ?_ ?_) | (with_reducible refine rdM (fun _ => ?_)) | (with_reducible refine wrM (fun _ => ?_)) | (with_reducible refine pfM (fun _ => ?_)) | (with_reducible refine jnM ?_) | (with_reducible exact idM) | (with_reducible refine anM ?_ ?_) | (with_reducible refine imM ?_) | (with_reducible refine cpM (fun _ => ?_)) | (with_reducible refine rsM (fun _ => ?_)))
theorem m_p8_areRings_L18 {E152 E1522 : HP → Int → Int → Int → Prop} (hE152 : ∀ (y0 : HP) (y1 : Int) (y2 : Int) (y3 : Int), E152 y0 y1 y2 y3 → E1522 y0 y1 y2 y3) : ∀ (fu : Nat) (a1 : HP) (a2 : Int) (a3 : Int) (a4 : Int) (a5 : Int) (a6 : Int), p8_areRings_L18 E152 fu a1 a2 a3 a4 a5 a6 → p8_areRings_L18 E1522 fu a1 a2 a3 a4 a5 a6 := by
  intro fu
  induction fu with
  | zero => intro a1 a2 a3 a4 a5 a6 H; exact (show False from H).elim
  | succ fu ih =>
    intro a1 a2 a3 a4 a5 a6
    unfold p8_areRings_L18
    repeat' (first | (with_reducible exact ih _ _ _ _ _ _) | (with_reducible exact hE152 _ _ _ _) | (with_reducible refine m_p8_has (fun _ => ?_)) | (with_reducible refine brM ?_ ?_) | (with_reducible refine rdM (fun _ => ?_)) | (with_reducible refine wrM (fun _ => ?_)) | (with_reducible refine pfM (fun _ => ?_)) | (with_reducible refine jnM ?_) | (with_reducible exact idM) | (with_reducible refine anM ?_ ?_) | (with_reducible refine imM ?_) | (with_reducible refine cpM (fun _ => ?_)) | (with_reducible refine rsM (fun _ => ?_)))
theorem m_p8_areRings {x1 : Int} {h : HP} {Q Q2 : Int → HP → Prop} (hQ : ∀ (y0 : Int) (y1 : HP), Q y0 y1 → Q2 y0 y1) : p8_areRings x1 h Q → p8_areRings x1 h Q2 := by
  unfold p8_areRings
  repeat' (first | (with_reducible exact hQ _ _) | (with_reducible refine m_p8_areRings_L18 (fun _ _ _ _ => ?_) _ _ _ _ _ _ _) | (with_reducible refine brM ?_ ?_) | (with_reducible refine rdM (fun _ => ?_)) | (with_reducible refine wrM (fun _ => ?_)) | (with_reducible refine pfM (fun _ => ?_)) | (with_reducible refine jnM ?_) | (with_reducible exact idM) | (with_reducible refine anM ?_ ?_) | (with_reducible refine imM ?_) | (with_reducible refine cpM (fun _ => ?_)) | (with_reducible refine rsM (fun _ => ?_)))
theorem m_p8_partOf_L5 {x1 : Int} {x2 : Int} {h : HP} {Q Q2 : Int → Prop} (hQ : ∀ (y0 : Int), Q y0 → Q2 y0) : ∀ (fu : Nat) (a1 : Int) (a2 : Int), p8_partOf_L5 x1 x2 h Q fu a1 a2 → p8_partOf_L5 x1 x2 h Q2 fu a1 a2 := by
  intro fu
  induction fu with
  | zero => intro a1 a2 H; exact (show False from H).elim
  | succ fu ih =>
    intro a1 a2
    unfold p8_partOf_L5
    repeat' (first | (with_reducible exact ih _ _) | (with_reducible exact hQ _) | (with_reducible refine brM ?_ ?_) | (with_reducible refine rdM (fun _ => ?_)) | (with_reducible refine wrM (fun _ => ?_)) | (with_reducible refine pfM (fun _ => ?_)) | (with_reducible refine jnM ?_) | (with_reducible exact idM) | (with_reducible refine anM ?_ ?_) | (with_reducible refine imM ?_) | (with_reducible refine cpM (fun _ => ?_)) | (with_reducible refine rsM (fun _ => ?_)))
theorem m_p8_partOf {x1 : Int} {x2 : Int} {h : HP} {Q Q2 : Int → Prop} (hQ : ∀ (y0 : Int), Q y0 → Q2 y0) : p8_partOf x1 x2 h Q → p8_partOf x1 x2 h Q2 := by
  unfold p8_partOf
  repeat' (first | (with_reducible exact hQ _) | (with_reducible refine m_p8_partOf_L5 (fun _ => ?_) _ _ _) | (with_reducible refine brM ?_ ?_) | (with_reducible refine rdM (fun _ => ?_)) | (with_reducible refine wrM (fun _ => ?_)) | (with_reducible refine pfM (fun _ => ?_)) | (with_reducible refine jnM ?_) | (with_reducible exact idM) | (with_reducible refine anM ?_ ?_) | (with_reducible refine imM ?_) | (with_reducible refine cpM (fun _ => ?_)) | (with_reducible refine rsM (fun _ => ?_)))
theorem m_p8_areThrown_L12 {Q Q2 : Int → HP → Prop} (hQ : ∀ (y0 : Int) (y1 : HP), Q y0 y1 → Q2 y0 y1) : ∀ (fu : Nat) (a1 : HP) (a2 : Int) (a3 : Int) (a4 : Int), p8_areThrown_L12 Q fu a1 a2 a3 a4 → p8_areThrown_L12 Q2 fu a1 a2 a3 a4 := by
  intro fu
  induction fu with
  | zero => intro a1 a2 a3 a4 H; exact (show False from H).elim
  | succ fu ih =>
    intro a1 a2 a3 a4
    unfold p8_areThrown_L12
    repeat' (first | (with_reducible exact ih _ _ _ _) | (with_reducible exact hQ _ _) | (with_reducible refine m_p8_partOf (fun _ => ?_)) | (with_reducible refine brM ?_ ?_) | (with_reducible refine rdM (fun _ => ?_)) | (with_reducible refine wrM (fun _ => ?_)) | (with_reducible refine pfM (fun _ => ?_)) | (with_reducible refine jnM ?_) | (with_reducible exact idM) | (with_reducible refine anM ?_ ?_) | (with_reducible refine imM ?_) | (with_reducible refine cpM (fun _ => ?_)) | (with_reducible refine rsM (fun _ => ?_)))
theorem m_p8_areThrown {x1 : Int} {h : HP} {Q Q2 : Int → HP → Prop} (hQ : ∀ (y0 : Int) (y1 : HP), Q y0 y1 → Q2 y0 y1) : p8_areThrown x1 h Q → p8_areThrown x1 h Q2 := by
  unfold p8_areThrown
  repeat' (first | (with_reducible exact hQ _ _) | (with_reducible refine m_p8_areThrown_L12 (fun _ _ => ?_) _ _ _ _ _) | (with_reducible refine brM ?_ ?_) | (with_reducible refine rdM (fun _ => ?_)) | (with_reducible refine wrM (fun _ => ?_)) | (with_reducible refine pfM (fun _ => ?_)) | (with_reducible refine jnM ?_) | (with_reducible exact idM) | (with_reducible refine anM ?_ ?_) | (with_reducible refine imM ?_) | (with_reducible refine cpM (fun _ => ?_)) | (with_reducible refine rsM (fun _ => ?_)))
theorem m_p8_ringsSum_L4 {h : HP} {Q Q2 : Int → Prop} (hQ : ∀ (y0 : Int), Q y0 → Q2 y0) : ∀ (fu : Nat) (a1 : Int) (a2 : Int), p8_ringsSum_L4 h Q fu a1 a2 → p8_ringsSum_L4 h Q2 fu a1 a2 := by
  intro fu
  induction fu with
  | zero => intro a1 a2 H; exact (show False from H).elim
  | succ fu ih =>
    intro a1 a2
    unfold p8_ringsSum_L4
    repeat' (first | (with_reducible exact ih _ _) | (with_reducible exact hQ _) | (with_reducible refine m_p8_betterBy (fun _ => ?_)) | (with_reducible refine brM ?_ ?_) | (with_reducible refine rdM (fun _ => ?_)) | (with_reducible refine wrM (fun _ => ?_)) | (with_reducible refine pfM (fun _ => ?_)) | (with_reducible refine jnM ?_) | (with_reducible exact idM) | (with_reducible refine anM ?_ ?_) | (with_reducible refine imM ?_) | (with_reducible refine cpM (fun _ => ?_)) | (with_reducible refine rsM (fun _ => ?_)))
theorem m_p8_ringsSum {h : HP} {Q Q2 : Int → Prop} (hQ : ∀ (y0 : Int), Q y0 → Q2 y0) : p8_ringsSum h Q → p8_ringsSum h Q2 := by
  unfold p8_ringsSum
  repeat' (first | (with_reducible exact hQ _) | (with_reducible refine m_p8_ringsSum_L4 (fun _ => ?_) _ _ _) | (with_reducible refine brM ?_ ?_) | (with_reducible refine rdM (fun _ => ?_)) | (with_reducible refine wrM (fun _ => ?_)) | (with_reducible refine pfM (fun _ => ?_)) | (with_reducible refine jnM ?_) | (with_reducible exact idM) | (with_reducible refine anM ?_ ?_) | (with_reducible refine imM ?_) | (with_reducible refine cpM (fun _ => ?_)) | (with_reducible refine rsM (fun _ => ?_)))
theorem m_p8_findRings_L4 {x1 : Int} {E29 E292 : HP → Prop} (hE29 : ∀ (y0 : HP), E29 y0 → E292 y0) : ∀ (fu : Nat) (a1 : HP) (a2 : Int), p8_findRings_L4 x1 E29 fu a1 a2 → p8_findRings_L4 x1 E292 fu a1 a2 := by
  intro fu
  induction fu with
  | zero => intro a1 a2 H; exact (show False from H).elim
  | succ fu ih =>
    intro a1 a2
    unfold p8_findRings_L4
    repeat' (first | (with_reducible exact ih _ _) | (with_reducible exact hE29 _) | (with_reducible refine brM ?_ ?_) | (with_reducible refine rdM (fun _ => ?_)) | (with_reducible refine wrM (fun _ => ?_)) | (with_reducible refine pfM (fun _ => ?_)) | (with_reducible refine jnM ?_) | (with_reducible exact idM) | (with_reducible refine anM ?_ ?_) | (with_reducible refine imM ?_) | (with_reducible refine cpM (fun _ => ?_)) | (with_reducible refine rsM (fun _ => ?_)))
theorem m_p8_findRings_L33 {x1 : Int} {h : HP} {E56 E562 : Int → Prop} (hE56 : ∀ (y0 : Int), E56 y0 → E562 y0) : ∀ (fu : Nat) (a1 : Int) (a2 : Int), p8_findRings_L33 x1 h E56 fu a1 a2 → p8_findRings_L33 x1 h E562 fu a1 a2 := by
  intro fu
  induction fu with
  | zero => intro a1 a2 H; exact (show False from H).elim
  | succ fu ih =>
    intro a1 a2
    unfold p8_findRings_L33
    repeat' (first | (with_reducible exact ih _ _) | (with_reducible exact hE56 _) | (with_reducible refine brM ?_ ?_) | (with_reducible refine rdM (fun _ => ?_)) | (with_reducible refine wrM (fun _ => ?_)) | (with_reducible refine pfM (fun _ => ?_)) | (with_reducible refine jnM ?_) | (with_reducible exact idM) | (with_reducible refine anM ?_ ?_) | (with_reducible refine imM ?_) | (with_reducible refine cpM (fun _ => ?_)) | (with_reducible refine rsM (fun _ => ?_)))
theorem m_p8_findRings_L77 {x1 : Int} {x2 : Int} {x3 : Int} {h : HP} {E112 E1122 : Int → Prop} (hE112 : ∀ (y0 : Int), E112 y0 → E1122 y0) : ∀ (fu : Nat) (a1 : Int) (a2 : Int), p8_findRings_L77 x1 x2 x3 h E112 fu a1 a2 → p8_findRings_L77 x1 x2 x3 h E1122 fu a1 a2 := by
  intro fu
  induction fu with
  | zero => intro a1 a2 H; exact (show False from H).elim
  | succ fu ih =>
    intro a1 a2
    unfold p8_findRings_L77
    repeat' (first | (with_reducible exact ih _ _) | (with_reducible exact hE112 _) | (with_reducible refine brM ?_ ?_) | (with_reducible refine rdM (fun _ => ?_)) | (with_reducible refine wrM (fun _ => ?_)) | (with_reducible refine pfM (fun _ => ?_)) | (with_reducible refine jnM ?_) | (with_reducible exact idM) | (with_reducible refine anM ?_ ?_) | (with_reducible refine imM ?_) | (with_reducible refine cpM (fun _ => ?_)) | (with_reducible refine rsM (fun _ => ?_)))
theorem m_p8_findRings_L153 {x1 : Int} {x2 : Int} {x3 : Int} {x4 : Int} {x5 : Int} {E215 E2152 : HP → Prop} (hE215 : ∀ (y0 : HP), E215 y0 → E2152 y0) : ∀ (fu : Nat) (a1 : HP) (a2 : Int), p8_findRings_L153 x1 x2 x3 x4 x5 E215 fu a1 a2 → p8_findRings_L153 x1 x2 x3 x4 x5 E2152 fu a1 a2 := by
  intro fu
  induction fu with
  | zero => intro a1 a2 H; exact (show False from H).elim
  | succ fu ih =>
    intro a1 a2
    unfold p8_findRings_L153
    repeat' (first | (with_reducible exact ih _ _) | (with_reducible exact hE215 _) | (with_reducible refine brM ?_ ?_) | (with_reducible refine rdM (fun _ => ?_)) | (with_reducible refine wrM (fun _ => ?_)) | (with_reducible refine pfM (fun _ => ?_)) | (with_reducible refine jnM ?_) | (with_reducible exact idM) | (with_reducible refine anM ?_ ?_) | (with_reducible refine imM ?_) | (with_reducible refine cpM (fun _ => ?_)) | (with_reducible refine rsM (fun _ => ?_)))
theorem m_p8_findRings_L115 {x2 : Int} {x3 : Int} {x4 : Int} {E221 E2212 : HP → Int → Prop} (hE221 : ∀ (y0 : HP) (y1 : Int), E221 y0 y1 → E2212 y0 y1) : ∀ (fu : Nat) (a1 : HP) (a2 : Int) (a3 : Int), p8_findRings_L115 x2 x3 x4 E221 fu a1 a2 a3 → p8_findRings_L115 x2 x3 x4 E2212 fu a1 a2 a3 := by
  intro fu
  induction fu with
  | zero => intro a1 a2 a3 H; exact (show False from H).elim
  | succ fu ih =>
    intro a1 a2 a3
    unfold p8_findRings_L115
    repeat' (first | (with_reducible exact ih _ _ _) | (with_reducible exact hE221 _ _) | (with_reducible refine m_p8_areThrown (fun _ _ => ?_)) | (with_reducible refine m_p8_findRings_L153 (fun _ => ?_) _ _ _) | (with_reducible refine m_p8_ringsSum (fun _ => ?_)) | (with_reducible refine brM ?_ ?_) | (with_reducible refine rdM (fun _ => ?_)) | (with_reducible refine wrM (fun _ => ?_)) | (with_reducible refine pfM (fun _ => ?_)) | (with_reducible refine jnM ?_) | (with_reducible exact idM) | (with_reducible refine anM ?_ ?_) | (with_reducible refine imM ?_) | (with_reducible refine cpM (fun _ => ?_)) | (with_reducible refine rsM (fun _ => ?_)))
theorem m_p8_findRings_L58 {x2 : Int} {Q Q2 : Int → HP → Prop} (hQ : ∀ (y0 : Int) (y1 : HP), Q y0 y1 → Q2 y0 y1) : ∀ (fu : Nat) (a1 : HP) (a2 : Int) (a3 : Int), p8_findRings_L58 x2 Q fu a1 a2 a3 → p8_findRings_L58 x2 Q2 fu a1 a2 a3 := by
  intro fu
  induction fu with
  | zero => intro a1 a2 a3 H; exact (show False from H).elim
  | succ fu ih =>
    intro a1 a2 a3
    unfold p8_findRings_L58
    repeat' (first | (with_reducible exact ih _ _ _) | (with_reducible exact hQ _ _) | (with_reducible refine m_p8_areRings (fun _ _ => ?_)) | (with_reducible refine m_p8_findRings_L77 (fun _ => ?_) _ _ _) | (with_reducible refine m_p8_findRings_L115 (fun _ _ => ?_) _ _ _ _) | (with_reducible refine brM ?_ ?_) | (with_reducible refine rdM (fun _ => ?_)) | (with_reducible refine wrM (fun _ => ?_)) | (with_reducible refine pfM (fun _ => ?_)) | (with_reducible refine jnM ?_) | (with_reducible exact idM) | (with_reducible refine anM ?_ ?_) | (with_reducible refine imM ?_) | (with_reducible refine cpM (fun _ => ?_)) | (with_reducible refine rsM (fun _ => ?_)))
theorem m_p8_findRings {h : HP} {Q Q2 : Int → HP → Prop} (hQ : ∀ (y0 : Int) (y1 : HP), Q y0 y1 → Q2 y0 y1) : p8_findRings h Q → p8_findRings h Q2 := by
  unfold p8_findRings
  repeat' (first | (with_reducible exact hQ _ _) | (with_reducible refine m_p8_findRings_L4 (fun _ => ?_) _ _ _) | (with_reducible refine m_p8_findRings_L33 (fun _ => ?_) _ _ _) | (with_reducible refine m_p8_findRings_L58 (fun _ _ => ?_) _ _ _ _) | (with_reducible refine brM ?_ ?_) | (with_reducible refine rdM (fun _ => ?_)) | (with_reducible refine wrM (fun _ => ?_)) | (with_reducible refine pfM (fun _ => ?_)) | (with_reducible refine jnM ?_) | (with_reducible exact idM) | (with_reducible refine anM ?_ ?_) | (with_reducible refine imM ?_) | (with_reducible refine cpM (fun _ => ?_)) | (with_reducible refine rsM (fun _ => ?_)))
theorem m_p8_rings {x1 : Int} {x2 : Int} {h : HP} {Q Q2 : Int → HP → Prop} (hQ : ∀ (y0 : Int) (y1 : HP), Q y0 y1 → Q2 y0 y1) : p8_rings x1 x2 h Q → p8_rings x1 x2 h Q2 := by
  unfold p8_rings
  repeat' (first | (with_reducible exact hQ _ _) | (with_reducible refine m_p8_in (fun _ => ?_)) | (with_reducible refine m_p8_findRings (fun _ _ => ?_)) | (with_reducible refine m_p8_isHouse (fun _ => ?_)) | (with_reducible refine brM ?_ ?_) | (with_reducible refine rdM (fun _ => ?_)) | (with_reducible refine wrM (fun _ => ?_)) | (with_reducible refine pfM (fun _ => ?_)) | (with_reducible refine jnM ?_) | (with_reducible exact idM) | (with_reducible refine anM ?_ ?_) | (with_reducible refine imM ?_) | (with_reducible refine cpM (fun _ => ?_)) | (with_reducible refine rsM (fun _ => ?_)))
theorem m_p8_oddsBy_L7 {x1 : Int} {h : HP} {Q Q2 : Int → Prop} (hQ : ∀ (y0 : Int), Q y0 → Q2 y0) : ∀ (fu : Nat) (a1 : Int) (a2 : Int), p8_oddsBy_L7 x1 h Q fu a1 a2 → p8_oddsBy_L7 x1 h Q2 fu a1 a2 := by
  intro fu
  induction fu with
  | zero => intro a1 a2 H; exact (show False from H).elim
  | succ fu ih =>
    intro a1 a2
    unfold p8_oddsBy_L7
    repeat' (first | (with_reducible exact ih _ _) | (with_reducible exact hQ _) | (with_reducible refine brM ?_ ?_) | (with_reducible refine rdM (fun _ => ?_)) | (with_reducible refine wrM (fun _ => ?_)) | (with_reducible refine pfM (fun _ => ?_)) | (with_reducible refine jnM ?_) | (with_reducible exact idM) | (with_reducible refine anM ?_ ?_) | (with_reducible refine imM ?_) | (with_reducible refine cpM (fun _ => ?_)) | (with_reducible refine rsM (fun _ => ?_)))
theorem m_p8_oddsBy {x1 : Int} {h : HP} {Q Q2 : Int → Prop} (hQ : ∀ (y0 : Int), Q y0 → Q2 y0) : p8_oddsBy x1 h Q → p8_oddsBy x1 h Q2 := by
  unfold p8_oddsBy
  repeat' (first | (with_reducible exact hQ _) | (with_reducible refine m_p8_oddsBy_L7 (fun _ => ?_) _ _ _) | (with_reducible refine brM ?_ ?_) | (with_reducible refine rdM (fun _ => ?_)) | (with_reducible refine wrM (fun _ => ?_)) | (with_reducible refine pfM (fun _ => ?_)) | (with_reducible refine jnM ?_) | (with_reducible exact idM) | (with_reducible refine anM ?_ ?_) | (with_reducible refine imM ?_) | (with_reducible refine cpM (fun _ => ?_)) | (with_reducible refine rsM (fun _ => ?_)))
theorem m_p8_odds {x1 : Int} {x2 : Int} {h : HP} {Q Q2 : Int → Prop} (hQ : ∀ (y0 : Int), Q y0 → Q2 y0) : p8_odds x1 x2 h Q → p8_odds x1 x2 h Q2 := by
  unfold p8_odds
  repeat' (first | (with_reducible exact hQ _) | (with_reducible refine m_p8_isSort (fun _ => ?_)) | (with_reducible refine m_p8_in (fun _ => ?_)) | (with_reducible refine m_p8_oddsBy (fun _ => ?_)) | (with_reducible refine brM ?_ ?_) | (with_reducible refine rdM (fun _ => ?_)) | (with_reducible refine wrM (fun _ => ?_)) | (with_reducible refine pfM (fun _ => ?_)) | (with_reducible refine jnM ?_) | (with_reducible exact idM) | (with_reducible refine anM ?_ ?_) | (with_reducible refine imM ?_) | (with_reducible refine cpM (fun _ => ?_)) | (with_reducible refine rsM (fun _ => ?_)))
theorem m_p8_waits_L96 {x3 : Int} {x7 : Int} {h : HP} {Q Q2 : Int → Prop} (hQ : ∀ (y0 : Int), Q y0 → Q2 y0) : ∀ (fu : Nat) (a1 : Int) (a2 : Int) (a3 : Int), p8_waits_L96 x3 x7 h Q fu a1 a2 a3 → p8_waits_L96 x3 x7 h Q2 fu a1 a2 a3 := by
  intro fu
  induction fu with
  | zero => intro a1 a2 a3 H; exact (show False from H).elim
  | succ fu ih =>
    intro a1 a2 a3
    unfold p8_waits_L96
    repeat' (first | (with_reducible exact ih _ _ _) | (with_reducible exact hQ _) | (with_reducible refine m_p8_oddsBy (fun _ => ?_)) | (with_reducible refine brM ?_ ?_) | (with_reducible refine rdM (fun _ => ?_)) | (with_reducible refine wrM (fun _ => ?_)) | (with_reducible refine pfM (fun _ => ?_)) | (with_reducible refine jnM ?_) | (with_reducible exact idM) | (with_reducible refine anM ?_ ?_) | (with_reducible refine imM ?_) | (with_reducible refine cpM (fun _ => ?_)) | (with_reducible refine rsM (fun _ => ?_)))
theorem m_p8_waits {x1 : Int} {x2 : Int} {x3 : Int} {h : HP} {Q Q2 : Int → Prop} (hQ : ∀ (y0 : Int), Q y0 → Q2 y0) : p8_waits x1 x2 x3 h Q → p8_waits x1 x2 x3 h Q2 := by
  unfold p8_waits
  repeat' (first | (with_reducible exact hQ _) | (with_reducible refine m_p8_isHouse (fun _ => ?_)) | (with_reducible refine m_p8_isSort (fun _ => ?_)) | (with_reducible refine m_p8_in (fun _ => ?_)) | (with_reducible refine m_p8_bestTake (fun _ => ?_)) | (with_reducible refine m_p8_sortsOf (fun _ => ?_)) | (with_reducible refine m_p8_has (fun _ => ?_)) | (with_reducible refine m_p8_waits_L96 (fun _ => ?_) _ _ _ _) | (with_reducible refine m_p8_gainOf (fun _ => ?_)) | (with_reducible refine brM ?_ ?_) | (with_reducible refine rdM (fun _ => ?_)) | (with_reducible refine wrM (fun _ => ?_)) | (with_reducible refine pfM (fun _ => ?_)) | (with_reducible refine jnM ?_) | (with_reducible exact idM) | (with_reducible refine anM ?_ ?_) | (with_reducible refine imM ?_) | (with_reducible refine cpM (fun _ => ?_)) | (with_reducible refine rsM (fun _ => ?_)))
theorem m_p8_findLie_L7 {x1 : Int} {Q Q2 : HP → Prop} (hQ : ∀ (y0 : HP), Q y0 → Q2 y0) : ∀ (fu : Nat) (a1 : HP) (a2 : Int), p8_findLie_L7 x1 Q fu a1 a2 → p8_findLie_L7 x1 Q2 fu a1 a2 := by
  intro fu
  induction fu with
  | zero => intro a1 a2 H; exact (show False from H).elim
  | succ fu ih =>
    intro a1 a2
    unfold p8_findLie_L7
    repeat' (first | (with_reducible exact ih _ _) | (with_reducible exact hQ _) | (with_reducible refine brM ?_ ?_) | (with_reducible refine rdM (fun _ => ?_)) | (with_reducible refine wrM (fun _ => ?_)) | (with_reducible refine pfM (fun _ => ?_)) | (with_reducible refine jnM ?_) | (with_reducible exact idM) | (with_reducible refine anM ?_ ?_) | (with_reducible refine imM ?_) | (with_reducible refine cpM (fun _ => ?_)) | (with_reducible refine rsM (fun _ => ?_)))
theorem m_p8_findLie {x1 : Int} {h : HP} {Q Q2 : HP → Prop} (hQ : ∀ (y0 : HP), Q y0 → Q2 y0) : p8_findLie x1 h Q → p8_findLie x1 h Q2 := by
  unfold p8_findLie
  repeat' (first | (with_reducible exact hQ _) | (with_reducible refine m_p8_findLie_L7 (fun _ => ?_) _ _ _) | (with_reducible refine brM ?_ ?_) | (with_reducible refine rdM (fun _ => ?_)) | (with_reducible refine wrM (fun _ => ?_)) | (with_reducible refine pfM (fun _ => ?_)) | (with_reducible refine jnM ?_) | (with_reducible exact idM) | (with_reducible refine anM ?_ ?_) | (with_reducible refine imM ?_) | (with_reducible refine cpM (fun _ => ?_)) | (with_reducible refine rsM (fun _ => ?_)))
theorem m_p8_power_L4 {x0 : Int} {h : HP} {Q Q2 : Int → Prop} (hQ : ∀ (y0 : Int), Q y0 → Q2 y0) : ∀ (fu : Nat) (a1 : Int) (a2 : Int), p8_power_L4 x0 h Q fu a1 a2 → p8_power_L4 x0 h Q2 fu a1 a2 := by
  intro fu
  induction fu with
  | zero => intro a1 a2 H; exact (show False from H).elim
  | succ fu ih =>
    intro a1 a2
    unfold p8_power_L4
    repeat' (first | (with_reducible exact ih _ _) | (with_reducible exact hQ _) | (with_reducible refine brM ?_ ?_) | (with_reducible refine rdM (fun _ => ?_)) | (with_reducible refine wrM (fun _ => ?_)) | (with_reducible refine pfM (fun _ => ?_)) | (with_reducible refine jnM ?_) | (with_reducible exact idM) | (with_reducible refine anM ?_ ?_) | (with_reducible refine imM ?_) | (with_reducible refine cpM (fun _ => ?_)) | (with_reducible refine rsM (fun _ => ?_)))
theorem m_p8_power {x0 : Int} {h : HP} {Q Q2 : Int → Prop} (hQ : ∀ (y0 : Int), Q y0 → Q2 y0) : p8_power x0 h Q → p8_power x0 h Q2 := by
  unfold p8_power
  repeat' (first | (with_reducible exact hQ _) | (with_reducible refine m_p8_power_L4 (fun _ => ?_) _ _ _) | (with_reducible refine brM ?_ ?_) | (with_reducible refine rdM (fun _ => ?_)) | (with_reducible refine wrM (fun _ => ?_)) | (with_reducible refine pfM (fun _ => ?_)) | (with_reducible refine jnM ?_) | (with_reducible exact idM) | (with_reducible refine anM ?_ ?_) | (with_reducible refine imM ?_) | (with_reducible refine cpM (fun _ => ?_)) | (with_reducible refine rsM (fun _ => ?_)))
theorem m_p8_endOf_L17 {x1 : Int} {x2 : Int} {x3 : Int} {x4 : Int} {h : HP} {E114 E1142 : Int → Int → Prop} (hE114 : ∀ (y0 : Int) (y1 : Int), E114 y0 y1 → E1142 y0 y1) : ∀ (fu : Nat) (a1 : Int) (a2 : Int) (a3 : Int), p8_endOf_L17 x1 x2 x3 x4 h E114 fu a1 a2 a3 → p8_endOf_L17 x1 x2 x3 x4 h E1142 fu a1 a2 a3 := by
  intro fu
  induction fu with
  | zero => intro a1 a2 a3 H; exact (show False from H).elim
  | succ fu ih =>
    intro a1 a2 a3
    unfold p8_endOf_L17
    repeat' (first | (with_reducible exact ih _ _ _) | (with_reducible exact hE114 _ _) | (with_reducible refine m_p8_power (fun _ => ?_)) | (with_reducible refine brM ?_ ?_) | (with_reducible refine rdM (fun _ => ?_)) | (with_reducible refine wrM (fun _ => ?_)) | (with_reducible refine pfM (fun _ => ?_)) | (with_reducible refine jnM ?_) | (with_reducible exact idM) | (with_reducible refine anM ?_ ?_) | (with_reducible refine imM ?_) | (with_reducible refine cpM (fun _ => ?_)) | (with_reducible refine rsM (fun _ => ?_)))
theorem m_p8_endOf {x1 : Int} {x2 : Int} {x3 : Int} {x4 : Int} {h : HP} {Q Q2 : Int → Prop} (hQ : ∀ (y0 : Int), Q y0 → Q2 y0) : p8_endOf x1 x2 x3 x4 h Q → p8_endOf x1 x2 x3 x4 h Q2 := by
  unfold p8_endOf
  repeat' (first | (with_reducible exact hQ _) | (with_reducible refine m_p8_sortsOf (fun _ => ?_)) | (with_reducible refine m_p8_endOf_L17 (fun _ _ => ?_) _ _ _ _) | (with_reducible refine m_p8_worthOf (fun _ => ?_)) | (with_reducible refine brM ?_ ?_) | (with_reducible refine rdM (fun _ => ?_)) | (with_reducible refine wrM (fun _ => ?_)) | (with_reducible refine pfM (fun _ => ?_)) | (with_reducible refine jnM ?_) | (with_reducible exact idM) | (with_reducible refine anM ?_ ?_) | (with_reducible refine imM ?_) | (with_reducible refine cpM (fun _ => ?_)) | (with_reducible refine rsM (fun _ => ?_)))
theorem m_p8_mayBe_L42 {x1 : Int} {x2 : Int} {x4 : Int} {h : HP} {E114 E1142 : Int → Int → Prop} (hE114 : ∀ (y0 : Int) (y1 : Int), E114 y0 y1 → E1142 y0 y1) : ∀ (fu : Nat) (a1 : Int) (a2 : Int) (a3 : Int), p8_mayBe_L42 x1 x2 x4 h E114 fu a1 a2 a3 → p8_mayBe_L42 x1 x2 x4 h E1142 fu a1 a2 a3 := by
  intro fu
  induction fu with
  | zero => intro a1 a2 a3 H; exact (show False from H).elim
  | succ fu ih =>
    intro a1 a2 a3
    unfold p8_mayBe_L42
    repeat' (first | (with_reducible exact ih _ _ _) | (with_reducible exact hE114 _ _) | (with_reducible refine m_p8_power (fun _ => ?_)) | (with_reducible refine brM ?_ ?_) | (with_reducible refine rdM (fun _ => ?_)) | (with_reducible refine wrM (fun _ => ?_)) | (with_reducible refine pfM (fun _ => ?_)) | (with_reducible refine jnM ?_) | (with_reducible exact idM) | (with_reducible refine anM ?_ ?_) | (with_reducible refine imM ?_) | (with_reducible refine cpM (fun _ => ?_)) | (with_reducible refine rsM (fun _ => ?_)))
theorem m_p8_mayBe {x1 : Int} {x2 : Int} {x3 : Int} {h : HP} {Q Q2 : Int → Prop} (hQ : ∀ (y0 : Int), Q y0 → Q2 y0) : p8_mayBe x1 x2 x3 h Q → p8_mayBe x1 x2 x3 h Q2 := by
  unfold p8_mayBe
  repeat' (first | (with_reducible exact hQ _) | (with_reducible refine m_p8_power (fun _ => ?_)) | (with_reducible refine m_p8_mayBe_L42 (fun _ _ => ?_) _ _ _ _) | (with_reducible refine brM ?_ ?_) | (with_reducible refine rdM (fun _ => ?_)) | (with_reducible refine wrM (fun _ => ?_)) | (with_reducible refine pfM (fun _ => ?_)) | (with_reducible refine jnM ?_) | (with_reducible exact idM) | (with_reducible refine anM ?_ ?_) | (with_reducible refine imM ?_) | (with_reducible refine cpM (fun _ => ?_)) | (with_reducible refine rsM (fun _ => ?_)))
theorem m_p8_turnsAt_L82 {x1 : Int} {x2 : Int} {x4 : Int} {x5 : Int} {E115 E1152 : HP → Prop} (hE115 : ∀ (y0 : HP), E115 y0 → E1152 y0) : ∀ (fu : Nat) (a1 : HP) (a2 : Int), p8_turnsAt_L82 x1 x2 x4 x5 E115 fu a1 a2 → p8_turnsAt_L82 x1 x2 x4 x5 E1152 fu a1 a2 := by
  intro fu
  induction fu with
  | zero => intro a1 a2 H; exact (show False from H).elim
  | succ fu ih =>
    intro a1 a2
    unfold p8_turnsAt_L82
    repeat' (first | (with_reducible exact ih _ _) | (with_reducible exact hE115 _) | (with_reducible refine m_p8_power (fun _ => ?_)) | (with_reducible refine m_p8_endOf (fun _ => ?_)) | (with_reducible refine brM ?_ ?_) | (with_reducible refine rdM (fun _ => ?_)) | (with_reducible refine wrM (fun _ => ?_)) | (with_reducible refine pfM (fun _ => ?_)) | (with_reducible refine jnM ?_) | (with_reducible exact idM) | (with_reducible refine anM ?_ ?_) | (with_reducible refine imM ?_) | (with_reducible refine cpM (fun _ => ?_)) | (with_reducible refine rsM (fun _ => ?_)))
theorem m_p8_turnsAt_L176 {x1 : Int} {x2 : Int} {x5 : Int} {x7 : Int} {x8 : Int} {x9 : Int} {h : HP} {E292 E2922 : Int → Int → Prop} (hE292 : ∀ (y0 : Int) (y1 : Int), E292 y0 y1 → E2922 y0 y1) : ∀ (fu : Nat) (a1 : Int) (a2 : Int) (a3 : Int), p8_turnsAt_L176 x1 x2 x5 x7 x8 x9 h E292 fu a1 a2 a3 → p8_turnsAt_L176 x1 x2 x5 x7 x8 x9 h E2922 fu a1 a2 a3 := by
  intro fu
  induction fu with
  | zero => intro a1 a2 a3 H; exact (show False from H).elim
  | succ fu ih =>
    intro a1 a2 a3
    unfold p8_turnsAt_L176
    repeat' (first | (with_reducible exact ih _ _ _) | (with_reducible exact hE292 _ _) | (with_reducible refine m_p8_power (fun _ => ?_)) | (with_reducible refine m_p8_mayBe (fun _ => ?_)) | (with_reducible refine brM ?_ ?_) | (with_reducible refine rdM (fun _ => ?_)) | (with_reducible refine wrM (fun _ => ?_)) | (with_reducible refine pfM (fun _ => ?_)) | (with_reducible refine jnM ?_) | (with_reducible exact idM) | (with_reducible refine anM ?_ ?_) | (with_reducible refine imM ?_) | (with_reducible refine cpM (fun _ => ?_)) | (with_reducible refine rsM (fun _ => ?_)))
theorem m_p8_turnsAt_L149 {x1 : Int} {x2 : Int} {x5 : Int} {x7 : Int} {x8 : Int} {E307 E3072 : HP → Int → Prop} (hE307 : ∀ (y0 : HP) (y1 : Int), E307 y0 y1 → E3072 y0 y1) : ∀ (fu : Nat) (a1 : HP) (a2 : Int) (a3 : Int), p8_turnsAt_L149 x1 x2 x5 x7 x8 E307 fu a1 a2 a3 → p8_turnsAt_L149 x1 x2 x5 x7 x8 E3072 fu a1 a2 a3 := by
  intro fu
  induction fu with
  | zero => intro a1 a2 a3 H; exact (show False from H).elim
  | succ fu ih =>
    intro a1 a2 a3
    unfold p8_turnsAt_L149
    repeat' (first | (with_reducible exact ih _ _ _) | (with_reducible exact hE307 _ _) | (with_reducible refine m_p8_power (fun _ => ?_)) | (with_reducible refine m_p8_turnsAt_L176 (fun _ _ => ?_) _ _ _ _) | (with_reducible refine brM ?_ ?_) | (with_reducible refine rdM (fun _ => ?_)) | (with_reducible refine wrM (fun _ => ?_)) | (with_reducible refine pfM (fun _ => ?_)) | (with_reducible refine jnM ?_) | (with_reducible exact idM) | (with_reducible refine anM ?_ ?_) | (with_reducible refine imM ?_) | (with_reducible refine cpM (fun _ => ?_)) | (with_reducible refine rsM (fun _ => ?_)))
theorem m_p8_turnsAt_L122 {x1 : Int} {x2 : Int} {x5 : Int} {E313 E3132 : HP → Int → Prop} (hE313 : ∀ (y0 : HP) (y1 : Int), E313 y0 y1 → E3132 y0 y1) : ∀ (fu : Nat) (a1 : HP) (a2 : Int) (a3 : Int), p8_turnsAt_L122 x1 x2 x5 E313 fu a1 a2 a3 → p8_turnsAt_L122 x1 x2 x5 E3132 fu a1 a2 a3 := by
  intro fu
  induction fu with
  | zero => intro a1 a2 a3 H; exact (show False from H).elim
  | succ fu ih =>
    intro a1 a2 a3
    unfold p8_turnsAt_L122
    repeat' (first | (with_reducible exact ih _ _ _) | (with_reducible exact hE313 _ _) | (with_reducible refine m_p8_countOf (fun _ => ?_)) | (with_reducible refine m_p8_turnsAt_L149 (fun _ _ => ?_) _ _ _ _) | (with_reducible refine brM ?_ ?_) | (with_reducible refine rdM (fun _ => ?_)) | (with_reducible refine wrM (fun _ => ?_)) | (with_reducible refine pfM (fun _ => ?_)) | (with_reducible refine jnM ?_) | (with_reducible exact idM) | (with_reducible refine anM ?_ ?_) | (with_reducible refine imM ?_) | (with_reducible refine cpM (fun _ => ?_)) | (with_reducible refine rsM (fun _ => ?_)))
theorem m_p8_turnsAt {x1 : Int} {x2 : Int} {x3 : Int} {x4 : Int} {x5 : Int} {h : HP} {Q Q2 : Int → HP → Prop} (hQ : ∀ (y0 : Int) (y1 : HP), Q y0 y1 → Q2 y0 y1) : p8_turnsAt x1 x2 x3 x4 x5 h Q → p8_turnsAt x1 x2 x3 x4 x5 h Q2 := by
  unfold p8_turnsAt
  repeat' (first | (with_reducible exact hQ _ _) | (with_reducible refine m_p8_isHouse (fun _ => ?_)) | (with_reducible refine m_p8_in (fun _ => ?_)) | (with_reducible refine m_p8_findLie (fun _ => ?_)) | (with_reducible refine m_p8_turnsAt_L82 (fun _ => ?_) _ _ _) | (with_reducible refine m_p8_turnsAt_L122 (fun _ _ => ?_) _ _ _ _) | (with_reducible refine brM ?_ ?_) | (with_reducible refine rdM (fun _ => ?_)) | (with_reducible refine wrM (fun _ => ?_)) | (with_reducible refine pfM (fun _ => ?_)) | (with_reducible refine jnM ?_) | (with_reducible exact idM) | (with_reducible refine anM ?_ ?_) | (with_reducible refine imM ?_) | (with_reducible refine cpM (fun _ => ?_)) | (with_reducible refine rsM (fun _ => ?_)))
theorem m_p8_write {x1 : Int} {x2 : Int} {x3 : Int} {h : HP} {Q Q2 : Int → HP → Prop} (hQ : ∀ (y0 : Int) (y1 : HP), Q y0 y1 → Q2 y0 y1) : p8_write x1 x2 x3 h Q → p8_write x1 x2 x3 h Q2 := by
  unfold p8_write
  repeat' (first | (with_reducible exact hQ _ _) | (with_reducible refine m_p8_isHouse (fun _ => ?_)) | (with_reducible refine m_p8_isPart (fun _ => ?_)) | (with_reducible refine brM ?_ ?_) | (with_reducible refine rdM (fun _ => ?_)) | (with_reducible refine wrM (fun _ => ?_)) | (with_reducible refine pfM (fun _ => ?_)) | (with_reducible refine jnM ?_) | (with_reducible exact idM) | (with_reducible refine anM ?_ ?_) | (with_reducible refine imM ?_) | (with_reducible refine cpM (fun _ => ?_)) | (with_reducible refine rsM (fun _ => ?_)))
theorem m_p8_tear {h : HP} {Q Q2 : Int → HP → Prop} (hQ : ∀ (y0 : Int) (y1 : HP), Q y0 y1 → Q2 y0 y1) : p8_tear h Q → p8_tear h Q2 := by
  unfold p8_tear
  repeat' (first | (with_reducible exact hQ _ _) | (with_reducible refine brM ?_ ?_) | (with_reducible refine rdM (fun _ => ?_)) | (with_reducible refine wrM (fun _ => ?_)) | (with_reducible refine pfM (fun _ => ?_)) | (with_reducible refine jnM ?_) | (with_reducible exact idM) | (with_reducible refine anM ?_ ?_) | (with_reducible refine imM ?_) | (with_reducible refine cpM (fun _ => ?_)) | (with_reducible refine rsM (fun _ => ?_)))
theorem m_p8_judge_L9 {E129 E1292 : HP → Int → Prop} (hE129 : ∀ (y0 : HP) (y1 : Int), E129 y0 y1 → E1292 y0 y1) : ∀ (fu : Nat) (a1 : HP) (a2 : Int) (a3 : Int), p8_judge_L9 E129 fu a1 a2 a3 → p8_judge_L9 E1292 fu a1 a2 a3 := by
  intro fu
  induction fu with
  | zero => intro a1 a2 a3 H; exact (show False from H).elim
  | succ fu ih =>
    intro a1 a2 a3
    unfold p8_judge_L9
    repeat' (first | (with_reducible exact ih _ _ _) | (with_reducible exact hE129 _ _) | (with_reducible refine m_p8_tossNow (fun _ => ?_)) | (with_reducible refine m_p8_mayTake (fun _ => ?_)) | (with_reducible refine m_p8_takeNow (fun _ => ?_)) | (with_reducible refine brM ?_ ?_) | (with_reducible refine rdM (fun _ => ?_)) | (with_reducible refine wrM (fun _ => ?_)) | (with_reducible refine pfM (fun _ => ?_)) | (with_reducible refine jnM ?_) | (with_reducible exact idM) | (with_reducible refine anM ?_ ?_) | (with_reducible refine imM ?_) | (with_reducible refine cpM (fun _ => ?_)) | (with_reducible refine rsM (fun _ => ?_)))
theorem m_p8_judge {h : HP} {Q Q2 : Int → HP → Prop} (hQ : ∀ (y0 : Int) (y1 : HP), Q y0 y1 → Q2 y0 y1) : p8_judge h Q → p8_judge h Q2 := by
  unfold p8_judge
  repeat' (first | (with_reducible exact hQ _ _) | (with_reducible refine m_p8_save (fun _ => ?_)) | (with_reducible refine m_p8_judge_L9 (fun _ _ => ?_) _ _ _ _) | (with_reducible refine m_p8_load (fun _ => ?_)) | (with_reducible refine brM ?_ ?_) | (with_reducible refine rdM (fun _ => ?_)) | (with_reducible refine wrM (fun _ => ?_)) | (with_reducible refine pfM (fun _ => ?_)) | (with_reducible refine jnM ?_) | (with_reducible exact idM) | (with_reducible refine anM ?_ ?_) | (with_reducible refine imM ?_) | (with_reducible refine cpM (fun _ => ?_)) | (with_reducible refine rsM (fun _ => ?_)))
theorem m_p8_seed {x1 : Int} {h : HP} {Q Q2 : Int → HP → Prop} (hQ : ∀ (y0 : Int) (y1 : HP), Q y0 y1 → Q2 y0 y1) : p8_seed x1 h Q → p8_seed x1 h Q2 := by
  unfold p8_seed
  repeat' (first | (with_reducible exact hQ _ _) | (with_reducible refine brM ?_ ?_) | (with_reducible refine rdM (fun _ => ?_)) | (with_reducible refine wrM (fun _ => ?_)) | (with_reducible refine pfM (fun _ => ?_)) | (with_reducible refine jnM ?_) | (with_reducible exact idM) | (with_reducible refine anM ?_ ?_) | (with_reducible refine imM ?_) | (with_reducible refine cpM (fun _ => ?_)) | (with_reducible refine rsM (fun _ => ?_)))
theorem m_p8_keep {x1 : Int} {h : HP} {Q Q2 : Int → HP → Prop} (hQ : ∀ (y0 : Int) (y1 : HP), Q y0 y1 → Q2 y0 y1) : p8_keep x1 h Q → p8_keep x1 h Q2 := by
  unfold p8_keep
  repeat' (first | (with_reducible exact hQ _ _) | (with_reducible refine m_p8_in (fun _ => ?_)) | (with_reducible refine m_p8_save (fun _ => ?_)) | (with_reducible refine brM ?_ ?_) | (with_reducible refine rdM (fun _ => ?_)) | (with_reducible refine wrM (fun _ => ?_)) | (with_reducible refine pfM (fun _ => ?_)) | (with_reducible refine jnM ?_) | (with_reducible exact idM) | (with_reducible refine anM ?_ ?_) | (with_reducible refine imM ?_) | (with_reducible refine cpM (fun _ => ?_)) | (with_reducible refine rsM (fun _ => ?_)))
theorem m_p8_goBack {x1 : Int} {h : HP} {Q Q2 : Int → HP → Prop} (hQ : ∀ (y0 : Int) (y1 : HP), Q y0 y1 → Q2 y0 y1) : p8_goBack x1 h Q → p8_goBack x1 h Q2 := by
  unfold p8_goBack
  repeat' (first | (with_reducible exact hQ _ _) | (with_reducible refine m_p8_in (fun _ => ?_)) | (with_reducible refine m_p8_load (fun _ => ?_)) | (with_reducible refine brM ?_ ?_) | (with_reducible refine rdM (fun _ => ?_)) | (with_reducible refine wrM (fun _ => ?_)) | (with_reducible refine pfM (fun _ => ?_)) | (with_reducible refine jnM ?_) | (with_reducible exact idM) | (with_reducible refine anM ?_ ?_) | (with_reducible refine imM ?_) | (with_reducible refine cpM (fun _ => ?_)) | (with_reducible refine rsM (fun _ => ?_)))
