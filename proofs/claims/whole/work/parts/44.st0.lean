def l_Bh_feed : Pl := [(1, some 1), (2, none)]
set_option maxRecDepth 20000 in
theorem h_Bh_feed {w : MW} {a0 : Int32} {b0 : Int32} {c0 : Int32} {e0 : Int32} {f0 : Int32} {Q : Int32 → MW → Prop} (hI : BND w)  (hQ : ∀ (r : Int32) (w' : MW), BND w' → FR l_Bh_feed w w' → (-2) ≤ r.toInt → r.toInt ≤ 4020 → Q r w') : p_Bh_feed w a0 b0 c0 e0 f0 Q := sorry
def l_Pl_putNumber_123_2 : Pl := []
def l_Pl_putNumber_123_27 : Pl := [(123, none)]
def l_Pl_putNumber_123 : Pl := [(123, none)]
set_option maxRecDepth 20000 in
theorem hq_Pl_putNumber_123_2 {x2_1 : Int32} {x2_2 : Int32} {E : Int32 → MW → Prop} {Q : Int32 → MW → Prop} (n : Nat) : ∀ (x2_3 : Int32) (w : MW), BND w → 0 ≤ x2_1.toInt → x2_1.toInt ≤ 640 → 0 ≤ x2_2.toInt → x2_2.toInt ≤ 9999999 → 1 ≤ x2_3.toInt → x2_3.toInt ≤ 1000000 → (1000000 - x2_3.toInt).toNat < n → (∀ (e2_3 : Int32) (w' : MW), BND w' → FR l_Pl_putNumber_123_2 w w' → 1 ≤ e2_3.toInt → e2_3.toInt ≤ 1000000 → E e2_3 w') → (∀ (r : Int32) (w' : MW), BND w' → FR l_Pl_putNumber_123_2 w w' → False → Q r w') → q_Pl_putNumber_123_2 x2_1 x2_2 E Q n x2_3 w := sorry
set_option maxRecDepth 20000 in
theorem hq_Pl_putNumber_123_27 {x27_2 : Int32} {E : Int32 → MW → Prop} {Q : Int32 → MW → Prop} (n : Nat) : ∀ (x27_3 : Int32) (x27_4 : Int32) (w : MW), BND w → 0 ≤ x27_2.toInt → x27_2.toInt ≤ 9999999 → 0 ≤ x27_3.toInt → x27_3.toInt ≤ 1000000 → 0 ≤ x27_4.toInt → x27_4.toInt ≤ 640 → (x27_3.toInt - 0).toNat < n → (∀ (e27_4 : Int32) (w' : MW), BND w' → FR l_Pl_putNumber_123_27 w w' → 0 ≤ e27_4.toInt → e27_4.toInt ≤ 640 → E e27_4 w') → (∀ (r : Int32) (w' : MW), BND w' → FR l_Pl_putNumber_123_27 w w' → False → Q r w') → q_Pl_putNumber_123_27 x27_2 E Q n x27_3 x27_4 w := sorry
set_option maxRecDepth 20000 in
theorem h_Pl_putNumber_123 {w : MW} {a0 : Int32} {b0 : Int32} {Q : Int32 → MW → Prop} (hI : BND w) (hp0 : 0 ≤ a0.toInt) (hp1 : a0.toInt ≤ 640) (hp2 : 0 ≤ b0.toInt) (hp3 : b0.toInt ≤ 9999999) (hQ : ∀ (r : Int32) (w' : MW), BND w' → FR l_Pl_putNumber_123 w w' → 0 ≤ r.toInt → r.toInt ≤ 640 → Q r w') : p_Pl_putNumber_123 w a0 b0 Q := sorry
def l_Pl_put_123_2017_5 : Pl := [(123, none)]
def l_Pl_put_123_2017 : Pl := [(123, none)]
set_option maxRecDepth 20000 in
theorem hq_Pl_put_123_2017_5 {E : Int32 → MW → Prop} {Q : Int32 → MW → Prop} (n : Nat) : ∀ (x5_3 : Int32) (x5_4 : Int32) (w : MW), BND w → 0 ≤ x5_3.toInt → x5_3.toInt ≤ 640 → 0 ≤ x5_4.toInt → x5_4.toInt ≤ 1 → (640 - x5_3.toInt).toNat < n → (∀ (e5_3 : Int32) (w' : MW), BND w' → FR l_Pl_put_123_2017_5 w w' → 0 ≤ e5_3.toInt → e5_3.toInt ≤ 640 → E e5_3 w') → (∀ (r : Int32) (w' : MW), BND w' → FR l_Pl_put_123_2017_5 w w' → False → Q r w') → q_Pl_put_123_2017_5 E Q n x5_3 x5_4 w := sorry
set_option maxRecDepth 20000 in
theorem h_Pl_put_123_2017 {w : MW} {a0 : Int32} {Q : Int32 → MW → Prop} (hI : BND w) (hp0 : 0 ≤ a0.toInt) (hp1 : a0.toInt ≤ 640) (hQ : ∀ (r : Int32) (w' : MW), BND w' → FR l_Pl_put_123_2017 w w' → 0 ≤ r.toInt → r.toInt ≤ 640 → Q r w') : p_Pl_put_123_2017 w a0 Q := sorry
def l_Pl_put_123_2001_5 : Pl := [(123, none)]
def l_Pl_put_123_2001 : Pl := [(123, none)]
set_option maxRecDepth 20000 in
theorem hq_Pl_put_123_2001_5 {E : Int32 → MW → Prop} {Q : Int32 → MW → Prop} (n : Nat) : ∀ (x5_3 : Int32) (x5_4 : Int32) (w : MW), BND w → 0 ≤ x5_3.toInt → x5_3.toInt ≤ 640 → 0 ≤ x5_4.toInt → x5_4.toInt ≤ 5 → (640 - x5_3.toInt).toNat < n → (∀ (e5_3 : Int32) (w' : MW), BND w' → FR l_Pl_put_123_2001_5 w w' → 0 ≤ e5_3.toInt → e5_3.toInt ≤ 640 → E e5_3 w') → (∀ (r : Int32) (w' : MW), BND w' → FR l_Pl_put_123_2001_5 w w' → False → Q r w') → q_Pl_put_123_2001_5 E Q n x5_3 x5_4 w := sorry
set_option maxRecDepth 20000 in
theorem h_Pl_put_123_2001 {w : MW} {a0 : Int32} {Q : Int32 → MW → Prop} (hI : BND w) (hp0 : 0 ≤ a0.toInt) (hp1 : a0.toInt ≤ 640) (hQ : ∀ (r : Int32) (w' : MW), BND w' → FR l_Pl_put_123_2001 w w' → 0 ≤ r.toInt → r.toInt ≤ 640 → Q r w') : p_Pl_put_123_2001 w a0 Q := sorry
def l_Pl_put_123_2002_5 : Pl := [(123, none)]
def l_Pl_put_123_2002 : Pl := [(123, none)]
set_option maxRecDepth 20000 in
theorem hq_Pl_put_123_2002_5 {E : Int32 → MW → Prop} {Q : Int32 → MW → Prop} (n : Nat) : ∀ (x5_3 : Int32) (x5_4 : Int32) (w : MW), BND w → 0 ≤ x5_3.toInt → x5_3.toInt ≤ 640 → 0 ≤ x5_4.toInt → x5_4.toInt ≤ 6 → (640 - x5_3.toInt).toNat < n → (∀ (e5_3 : Int32) (w' : MW), BND w' → FR l_Pl_put_123_2002_5 w w' → 0 ≤ e5_3.toInt → e5_3.toInt ≤ 640 → E e5_3 w') → (∀ (r : Int32) (w' : MW), BND w' → FR l_Pl_put_123_2002_5 w w' → False → Q r w') → q_Pl_put_123_2002_5 E Q n x5_3 x5_4 w := sorry
set_option maxRecDepth 20000 in
theorem h_Pl_put_123_2002 {w : MW} {a0 : Int32} {Q : Int32 → MW → Prop} (hI : BND w) (hp0 : 0 ≤ a0.toInt) (hp1 : a0.toInt ≤ 640) (hQ : ∀ (r : Int32) (w' : MW), BND w' → FR l_Pl_put_123_2002 w w' → 0 ≤ r.toInt → r.toInt ≤ 640 → Q r w') : p_Pl_put_123_2002 w a0 Q := sorry
def l_Pl_put_123_2003_5 : Pl := [(123, none)]
def l_Pl_put_123_2003 : Pl := [(123, none)]
set_option maxRecDepth 20000 in
theorem hq_Pl_put_123_2003_5 {E : Int32 → MW → Prop} {Q : Int32 → MW → Prop} (n : Nat) : ∀ (x5_3 : Int32) (x5_4 : Int32) (w : MW), BND w → 0 ≤ x5_3.toInt → x5_3.toInt ≤ 640 → 0 ≤ x5_4.toInt → x5_4.toInt ≤ 4 → (640 - x5_3.toInt).toNat < n → (∀ (e5_3 : Int32) (w' : MW), BND w' → FR l_Pl_put_123_2003_5 w w' → 0 ≤ e5_3.toInt → e5_3.toInt ≤ 640 → E e5_3 w') → (∀ (r : Int32) (w' : MW), BND w' → FR l_Pl_put_123_2003_5 w w' → False → Q r w') → q_Pl_put_123_2003_5 E Q n x5_3 x5_4 w := sorry
set_option maxRecDepth 20000 in
theorem h_Pl_put_123_2003 {w : MW} {a0 : Int32} {Q : Int32 → MW → Prop} (hI : BND w) (hp0 : 0 ≤ a0.toInt) (hp1 : a0.toInt ≤ 640) (hQ : ∀ (r : Int32) (w' : MW), BND w' → FR l_Pl_put_123_2003 w w' → 0 ≤ r.toInt → r.toInt ≤ 640 → Q r w') : p_Pl_put_123_2003 w a0 Q := sorry
def l_Pl_put_123_2004_5 : Pl := [(123, none)]
def l_Pl_put_123_2004 : Pl := [(123, none)]
set_option maxRecDepth 20000 in
theorem hq_Pl_put_123_2004_5 {E : Int32 → MW → Prop} {Q : Int32 → MW → Prop} (n : Nat) : ∀ (x5_3 : Int32) (x5_4 : Int32) (w : MW), BND w → 0 ≤ x5_3.toInt → x5_3.toInt ≤ 640 → 0 ≤ x5_4.toInt → x5_4.toInt ≤ 5 → (640 - x5_3.toInt).toNat < n → (∀ (e5_3 : Int32) (w' : MW), BND w' → FR l_Pl_put_123_2004_5 w w' → 0 ≤ e5_3.toInt → e5_3.toInt ≤ 640 → E e5_3 w') → (∀ (r : Int32) (w' : MW), BND w' → FR l_Pl_put_123_2004_5 w w' → False → Q r w') → q_Pl_put_123_2004_5 E Q n x5_3 x5_4 w := sorry
set_option maxRecDepth 20000 in
theorem h_Pl_put_123_2004 {w : MW} {a0 : Int32} {Q : Int32 → MW → Prop} (hI : BND w) (hp0 : 0 ≤ a0.toInt) (hp1 : a0.toInt ≤ 640) (hQ : ∀ (r : Int32) (w' : MW), BND w' → FR l_Pl_put_123_2004 w w' → 0 ≤ r.toInt → r.toInt ≤ 640 → Q r w') : p_Pl_put_123_2004 w a0 Q := sorry
def l_Pl_put_123_2005_5 : Pl := [(123, none)]
def l_Pl_put_123_2005 : Pl := [(123, none)]
set_option maxRecDepth 20000 in
theorem hq_Pl_put_123_2005_5 {E : Int32 → MW → Prop} {Q : Int32 → MW → Prop} (n : Nat) : ∀ (x5_3 : Int32) (x5_4 : Int32) (w : MW), BND w → 0 ≤ x5_3.toInt → x5_3.toInt ≤ 640 → 0 ≤ x5_4.toInt → x5_4.toInt ≤ 1 → (640 - x5_3.toInt).toNat < n → (∀ (e5_3 : Int32) (w' : MW), BND w' → FR l_Pl_put_123_2005_5 w w' → 0 ≤ e5_3.toInt → e5_3.toInt ≤ 640 → E e5_3 w') → (∀ (r : Int32) (w' : MW), BND w' → FR l_Pl_put_123_2005_5 w w' → False → Q r w') → q_Pl_put_123_2005_5 E Q n x5_3 x5_4 w := sorry
set_option maxRecDepth 20000 in
theorem h_Pl_put_123_2005 {w : MW} {a0 : Int32} {Q : Int32 → MW → Prop} (hI : BND w) (hp0 : 0 ≤ a0.toInt) (hp1 : a0.toInt ≤ 640) (hQ : ∀ (r : Int32) (w' : MW), BND w' → FR l_Pl_put_123_2005 w w' → 0 ≤ r.toInt → r.toInt ≤ 640 → Q r w') : p_Pl_put_123_2005 w a0 Q := sorry
def l_Pl_put_123_2016_5 : Pl := [(123, none)]
def l_Pl_put_123_2016 : Pl := [(123, none)]
set_option maxRecDepth 20000 in
theorem hq_Pl_put_123_2016_5 {E : Int32 → MW → Prop} {Q : Int32 → MW → Prop} (n : Nat) : ∀ (x5_3 : Int32) (x5_4 : Int32) (w : MW), BND w → 0 ≤ x5_3.toInt → x5_3.toInt ≤ 640 → 0 ≤ x5_4.toInt → x5_4.toInt ≤ 1 → (640 - x5_3.toInt).toNat < n → (∀ (e5_3 : Int32) (w' : MW), BND w' → FR l_Pl_put_123_2016_5 w w' → 0 ≤ e5_3.toInt → e5_3.toInt ≤ 640 → E e5_3 w') → (∀ (r : Int32) (w' : MW), BND w' → FR l_Pl_put_123_2016_5 w w' → False → Q r w') → q_Pl_put_123_2016_5 E Q n x5_3 x5_4 w := sorry
set_option maxRecDepth 20000 in
theorem h_Pl_put_123_2016 {w : MW} {a0 : Int32} {Q : Int32 → MW → Prop} (hI : BND w) (hp0 : 0 ≤ a0.toInt) (hp1 : a0.toInt ≤ 640) (hQ : ∀ (r : Int32) (w' : MW), BND w' → FR l_Pl_put_123_2016 w w' → 0 ≤ r.toInt → r.toInt ≤ 640 → Q r w') : p_Pl_put_123_2016 w a0 Q := sorry
def l_Pl_writeTos91_123_4 : Pl := [(123, none)]
def l_Pl_writeTos91_123_100 : Pl := [(123, none)]
def l_Pl_writeTos91_123 : Pl := [(123, none)]
set_option maxRecDepth 20000 in
theorem hq_Pl_writeTos91_123_4 {E : Int32 → MW → Prop} {Q : Int32 → MW → Prop} (n : Nat) : ∀ (x4_2 : Int32) (x4_3 : Int32) (w : MW), BND w → 0 ≤ x4_2.toInt → x4_2.toInt ≤ 640 → 0 ≤ x4_3.toInt → x4_3.toInt ≤ 20 → (20 - x4_3.toInt).toNat < n → (∀ (e4_2 : Int32) (w' : MW), BND w' → FR l_Pl_writeTos91_123_4 w w' → 0 ≤ e4_2.toInt → e4_2.toInt ≤ 640 → E e4_2 w') → (∀ (r : Int32) (w' : MW), BND w' → FR l_Pl_writeTos91_123_4 w w' → False → Q r w') → q_Pl_writeTos91_123_4 E Q n x4_2 x4_3 w := sorry
set_option maxRecDepth 20000 in
theorem hq_Pl_writeTos91_123_100 {E : Int32 → MW → Prop} {Q : Int32 → MW → Prop} (n : Nat) : ∀ (x100_2 : Int32) (x100_3 : Int32) (w : MW), BND w → 0 ≤ x100_2.toInt → x100_2.toInt ≤ 640 → 0 ≤ x100_3.toInt → x100_3.toInt ≤ 24 → (24 - x100_3.toInt).toNat < n → (∀ (e100_2 : Int32) (w' : MW), BND w' → FR l_Pl_writeTos91_123_100 w w' → 0 ≤ e100_2.toInt → e100_2.toInt ≤ 640 → E e100_2 w') → (∀ (r : Int32) (w' : MW), BND w' → FR l_Pl_writeTos91_123_100 w w' → False → Q r w') → q_Pl_writeTos91_123_100 E Q n x100_2 x100_3 w := sorry
set_option maxRecDepth 20000 in
theorem h_Pl_writeTos91_123 {w : MW} {Q : Int32 → MW → Prop} (hI : BND w)  (hQ : ∀ (r : Int32) (w' : MW), BND w' → FR l_Pl_writeTos91_123 w w' → 0 ≤ r.toInt → r.toInt ≤ 640 → Q r w') : p_Pl_writeTos91_123 w Q := sorry
def l_Ar_fill0_16_5 : Pl := [(16, none)]
def l_Ar_fill0_16 : Pl := [(16, none)]
set_option maxRecDepth 20000 in
theorem hq_Ar_fill0_16_5 {x5_1 : Int32} {x5_3 : Int32} {E : MW → Prop} {Q : MW → Prop} (n : Nat) : ∀ (x5_2 : Int32) (w : MW), BND w → 0 ≤ x5_1.toInt → x5_1.toInt ≤ 0 → 20 ≤ x5_3.toInt → x5_3.toInt ≤ 20 → 0 ≤ x5_2.toInt → x5_2.toInt ≤ 20 → (20 - x5_2.toInt).toNat < n → (∀ (w' : MW), BND w' → FR l_Ar_fill0_16_5 w w' → E w') → (∀ (w' : MW), BND w' → FR l_Ar_fill0_16_5 w w' → False → Q w') → q_Ar_fill0_16_5 x5_1 x5_3 E Q n x5_2 w := sorry
set_option maxRecDepth 20000 in
theorem h_Ar_fill0_16 {w : MW} {a0 : Int32} {Q : MW → Prop} (hI : BND w) (hp0 : 0 ≤ a0.toInt) (hp1 : a0.toInt ≤ 0) (hQ : ∀ (w' : MW), BND w' → FR l_Ar_fill0_16 w w' → Q w') : p_Ar_fill0_16 w a0 Q := sorry
def l_Ar_fill0_17_5 : Pl := [(17, none)]
def l_Ar_fill0_17 : Pl := [(17, none)]
set_option maxRecDepth 20000 in
theorem hq_Ar_fill0_17_5 {x5_1 : Int32} {x5_3 : Int32} {E : MW → Prop} {Q : MW → Prop} (n : Nat) : ∀ (x5_2 : Int32) (w : MW), BND w → 0 ≤ x5_1.toInt → x5_1.toInt ≤ 0 → 44 ≤ x5_3.toInt → x5_3.toInt ≤ 44 → 0 ≤ x5_2.toInt → x5_2.toInt ≤ 44 → (44 - x5_2.toInt).toNat < n → (∀ (w' : MW), BND w' → FR l_Ar_fill0_17_5 w w' → E w') → (∀ (w' : MW), BND w' → FR l_Ar_fill0_17_5 w w' → False → Q w') → q_Ar_fill0_17_5 x5_1 x5_3 E Q n x5_2 w := sorry
set_option maxRecDepth 20000 in
theorem h_Ar_fill0_17 {w : MW} {a0 : Int32} {Q : MW → Prop} (hI : BND w) (hp0 : 0 ≤ a0.toInt) (hp1 : a0.toInt ≤ 0) (hQ : ∀ (w' : MW), BND w' → FR l_Ar_fill0_17 w w' → Q w') : p_Ar_fill0_17 w a0 Q := sorry
def l_Ar_fill0_18_5 : Pl := [(18, none)]
def l_Ar_fill0_18 : Pl := [(18, none)]
set_option maxRecDepth 20000 in
theorem hq_Ar_fill0_18_5 {x5_1 : Int32} {x5_3 : Int32} {E : MW → Prop} {Q : MW → Prop} (n : Nat) : ∀ (x5_2 : Int32) (w : MW), BND w → 0 ≤ x5_1.toInt → x5_1.toInt ≤ 0 → 44 ≤ x5_3.toInt → x5_3.toInt ≤ 44 → 0 ≤ x5_2.toInt → x5_2.toInt ≤ 44 → (44 - x5_2.toInt).toNat < n → (∀ (w' : MW), BND w' → FR l_Ar_fill0_18_5 w w' → E w') → (∀ (w' : MW), BND w' → FR l_Ar_fill0_18_5 w w' → False → Q w') → q_Ar_fill0_18_5 x5_1 x5_3 E Q n x5_2 w := sorry
set_option maxRecDepth 20000 in
theorem h_Ar_fill0_18 {w : MW} {a0 : Int32} {Q : MW → Prop} (hI : BND w) (hp0 : 0 ≤ a0.toInt) (hp1 : a0.toInt ≤ 0) (hQ : ∀ (w' : MW), BND w' → FR l_Ar_fill0_18 w w' → Q w') : p_Ar_fill0_18 w a0 Q := sorry
def l_Ar_fill0_19_5 : Pl := [(19, none)]
def l_Ar_fill0_19 : Pl := [(19, none)]
set_option maxRecDepth 20000 in
theorem hq_Ar_fill0_19_5 {x5_1 : Int32} {x5_3 : Int32} {E : MW → Prop} {Q : MW → Prop} (n : Nat) : ∀ (x5_2 : Int32) (w : MW), BND w → 0 ≤ x5_1.toInt → x5_1.toInt ≤ 0 → 44 ≤ x5_3.toInt → x5_3.toInt ≤ 44 → 0 ≤ x5_2.toInt → x5_2.toInt ≤ 44 → (44 - x5_2.toInt).toNat < n → (∀ (w' : MW), BND w' → FR l_Ar_fill0_19_5 w w' → E w') → (∀ (w' : MW), BND w' → FR l_Ar_fill0_19_5 w w' → False → Q w') → q_Ar_fill0_19_5 x5_1 x5_3 E Q n x5_2 w := sorry
set_option maxRecDepth 20000 in
theorem h_Ar_fill0_19 {w : MW} {a0 : Int32} {Q : MW → Prop} (hI : BND w) (hp0 : 0 ≤ a0.toInt) (hp1 : a0.toInt ≤ 0) (hQ : ∀ (w' : MW), BND w' → FR l_Ar_fill0_19 w w' → Q w') : p_Ar_fill0_19 w a0 Q := sorry
def l_Ar_fill0_21_5 : Pl := [(21, none)]
def l_Ar_fill0_21 : Pl := [(21, none)]
set_option maxRecDepth 20000 in
theorem hq_Ar_fill0_21_5 {x5_1 : Int32} {x5_3 : Int32} {E : MW → Prop} {Q : MW → Prop} (n : Nat) : ∀ (x5_2 : Int32) (w : MW), BND w → 0 ≤ x5_1.toInt → x5_1.toInt ≤ 0 → 24 ≤ x5_3.toInt → x5_3.toInt ≤ 24 → 0 ≤ x5_2.toInt → x5_2.toInt ≤ 24 → (24 - x5_2.toInt).toNat < n → (∀ (w' : MW), BND w' → FR l_Ar_fill0_21_5 w w' → E w') → (∀ (w' : MW), BND w' → FR l_Ar_fill0_21_5 w w' → False → Q w') → q_Ar_fill0_21_5 x5_1 x5_3 E Q n x5_2 w := sorry
set_option maxRecDepth 20000 in
theorem h_Ar_fill0_21 {w : MW} {a0 : Int32} {Q : MW → Prop} (hI : BND w) (hp0 : 0 ≤ a0.toInt) (hp1 : a0.toInt ≤ 0) (hQ : ∀ (w' : MW), BND w' → FR l_Ar_fill0_21 w w' → Q w') : p_Ar_fill0_21 w a0 Q := sorry
def l_Ar_fill0_23_5 : Pl := [(23, none)]
def l_Ar_fill0_23 : Pl := [(23, none)]
set_option maxRecDepth 20000 in
theorem hq_Ar_fill0_23_5 {x5_1 : Int32} {x5_3 : Int32} {E : MW → Prop} {Q : MW → Prop} (n : Nat) : ∀ (x5_2 : Int32) (w : MW), BND w → (-1) ≤ x5_1.toInt → x5_1.toInt ≤ (-1) → 264 ≤ x5_3.toInt → x5_3.toInt ≤ 264 → 0 ≤ x5_2.toInt → x5_2.toInt ≤ 264 → (264 - x5_2.toInt).toNat < n → (∀ (w' : MW), BND w' → FR l_Ar_fill0_23_5 w w' → E w') → (∀ (w' : MW), BND w' → FR l_Ar_fill0_23_5 w w' → False → Q w') → q_Ar_fill0_23_5 x5_1 x5_3 E Q n x5_2 w := sorry
set_option maxRecDepth 20000 in
theorem h_Ar_fill0_23 {w : MW} {a0 : Int32} {Q : MW → Prop} (hI : BND w) (hp0 : (-1) ≤ a0.toInt) (hp1 : a0.toInt ≤ (-1)) (hQ : ∀ (w' : MW), BND w' → FR l_Ar_fill0_23 w w' → Q w') : p_Ar_fill0_23 w a0 Q := sorry
def l_Ar_fill1_20_6 : Pl := [(20, none)]
def l_Ar_fill1_20 : Pl := [(20, none)]
set_option maxRecDepth 20000 in
theorem hq_Ar_fill1_20_6 {x6_1 : Int64} {x6_4 : Int32} {E : MW → Prop} {Q : MW → Prop} (n : Nat) : ∀ (x6_3 : Int32) (w : MW), BND w → 0 ≤ x6_1.toInt → x6_1.toInt ≤ 0 → 96 ≤ x6_4.toInt → x6_4.toInt ≤ 96 → 0 ≤ x6_3.toInt → x6_3.toInt ≤ 96 → (96 - x6_3.toInt).toNat < n → (∀ (w' : MW), BND w' → FR l_Ar_fill1_20_6 w w' → E w') → (∀ (w' : MW), BND w' → FR l_Ar_fill1_20_6 w w' → False → Q w') → q_Ar_fill1_20_6 x6_1 x6_4 E Q n x6_3 w := sorry
set_option maxRecDepth 20000 in
theorem h_Ar_fill1_20 {w : MW} {a0 : Int64} {Q : MW → Prop} (hI : BND w) (hp0 : 0 ≤ a0.toInt) (hp1 : a0.toInt ≤ 0) (hQ : ∀ (w' : MW), BND w' → FR l_Ar_fill1_20 w w' → Q w') : p_Ar_fill1_20 w a0 Q := sorry
def l_Ar_fill0_37_5 : Pl := [(37, none)]
def l_Ar_fill0_37 : Pl := [(37, none)]
set_option maxRecDepth 20000 in
theorem hq_Ar_fill0_37_5 {x5_1 : Int32} {x5_3 : Int32} {E : MW → Prop} {Q : MW → Prop} (n : Nat) : ∀ (x5_2 : Int32) (w : MW), BND w → 0 ≤ x5_1.toInt → x5_1.toInt ≤ 0 → 20 ≤ x5_3.toInt → x5_3.toInt ≤ 20 → 0 ≤ x5_2.toInt → x5_2.toInt ≤ 20 → (20 - x5_2.toInt).toNat < n → (∀ (w' : MW), BND w' → FR l_Ar_fill0_37_5 w w' → E w') → (∀ (w' : MW), BND w' → FR l_Ar_fill0_37_5 w w' → False → Q w') → q_Ar_fill0_37_5 x5_1 x5_3 E Q n x5_2 w := sorry
set_option maxRecDepth 20000 in
theorem h_Ar_fill0_37 {w : MW} {a0 : Int32} {Q : MW → Prop} (hI : BND w) (hp0 : 0 ≤ a0.toInt) (hp1 : a0.toInt ≤ 0) (hQ : ∀ (w' : MW), BND w' → FR l_Ar_fill0_37 w w' → Q w') : p_Ar_fill0_37 w a0 Q := sorry
def l_Wa_forget_7 : Pl := [(36, none)]
def l_Wa_forget : Pl := [(26, some 1), (36, none), (37, none)]
set_option maxRecDepth 20000 in
theorem hq_Wa_forget_7 {E : MW → Prop} {Q : MW → Prop} (n : Nat) : ∀ (x7_1 : Int32) (w : MW), BND w → 0 ≤ x7_1.toInt → x7_1.toInt ≤ 24 → (24 - x7_1.toInt).toNat < n → (∀ (w' : MW), BND w' → FR l_Wa_forget_7 w w' → E w') → (∀ (w' : MW), BND w' → FR l_Wa_forget_7 w w' → False → Q w') → q_Wa_forget_7 E Q n x7_1 w := sorry
set_option maxRecDepth 20000 in
theorem h_Wa_forget {w : MW} {Q : MW → Prop} (hI : BND w)  (hQ : ∀ (w' : MW), BND w' → FR l_Wa_forget w w' → Q w') : p_Wa_forget w Q := sorry
def l_Ru_expandAllm108_93 : Pl := [(61, some 5), (77, none), (78, none), (79, none)]
def l_Ru_expandAllm108_11 : Pl := [(61, some 5), (77, none), (78, none), (79, none)]
def l_Ru_expandAllm108 : Pl := [(61, some 5), (77, none), (78, none), (79, none)]
set_option maxRecDepth 20000 in
theorem hq_Ru_expandAllm108_11 {nn : Nat} {r_Ru_expandAllm108 : MW → Int32 → Int32 → (Int32 → MW → Prop) → Prop} (hr_Ru_expandAllm108 : ∀ (w : MW) (a0 : Int32) (b0 : Int32) (Q : Int32 → MW → Prop), BND w → w.2.2 61 3 = some 108 → (-1) ≤ a0.toInt → a0.toInt ≤ 300 → 0 ≤ b0.toInt → b0.toInt ≤ 100 → (100 - b0.toInt).toNat < nn → (∀ (r : Int32) (w' : MW), BND w' → FR l_Ru_expandAllm108 w w' → (-1) ≤ r.toInt → r.toInt ≤ 500 → Q r w') → r_Ru_expandAllm108 w a0 b0 Q) {x11_2 : Int32} {E : Int32 → MW → Prop} {Q : Int32 → MW → Prop} (n : Nat) : ∀ (x11_3 : Int32) (x11_4 : Int32) (x11_5 : Int32) (x11_6 : Int32) (w : MW), BND w → w.2.2 61 3 = some 108 → 0 ≤ x11_2.toInt → x11_2.toInt ≤ 100 → (-1) ≤ x11_3.toInt → x11_3.toInt ≤ 500 → (-1) ≤ x11_4.toInt → x11_4.toInt ≤ 500 → (-1) ≤ x11_5.toInt → x11_5.toInt ≤ 300 → 0 ≤ x11_6.toInt → x11_6.toInt ≤ 501 → (100 - x11_2.toInt).toNat ≤ nn → (501 - x11_6.toInt).toNat < n → (∀ (e11_3 : Int32) (w' : MW), BND w' → FR l_Ru_expandAllm108_11 w w' → (-1) ≤ e11_3.toInt → e11_3.toInt ≤ 500 → E e11_3 w') → (∀ (r : Int32) (w' : MW), BND w' → FR l_Ru_expandAllm108_11 w w' → False → Q r w') → q_Ru_expandAllm108_11 r_Ru_expandAllm108 x11_2 E Q n x11_3 x11_4 x11_5 x11_6 w := sorry
set_option maxRecDepth 20000 in
theorem hb_Ru_expandAllm108 {nn : Nat} {r_Ru_expandAllm108 : MW → Int32 → Int32 → (Int32 → MW → Prop) → Prop} (hr_Ru_expandAllm108 : ∀ (w : MW) (a0 : Int32) (b0 : Int32) (Q : Int32 → MW → Prop), BND w → w.2.2 61 3 = some 108 → (-1) ≤ a0.toInt → a0.toInt ≤ 300 → 0 ≤ b0.toInt → b0.toInt ≤ 100 → (100 - b0.toInt).toNat < nn → (∀ (r : Int32) (w' : MW), BND w' → FR l_Ru_expandAllm108 w w' → (-1) ≤ r.toInt → r.toInt ≤ 500 → Q r w') → r_Ru_expandAllm108 w a0 b0 Q) {w : MW} {a0 : Int32} {b0 : Int32} {Q : Int32 → MW → Prop} (hI : BND w) (hr_61_3 : w.2.2 61 3 = some 108) (hp0 : (-1) ≤ a0.toInt) (hp1 : a0.toInt ≤ 300) (hp2 : 0 ≤ b0.toInt) (hp3 : b0.toInt ≤ 100) (hn : (100 - b0.toInt).toNat ≤ nn) (hQ : ∀ (r : Int32) (w' : MW), BND w' → FR l_Ru_expandAllm108 w w' → (-1) ≤ r.toInt → r.toInt ≤ 500 → Q r w') : pb_Ru_expandAllm108 r_Ru_expandAllm108 w a0 b0 Q := sorry
theorem ha_Ru_expandAllm108 (n : Nat) : (∀ (w : MW) (a0 : Int32) (b0 : Int32) (Q : Int32 → MW → Prop), BND w → w.2.2 61 3 = some 108 → (-1) ≤ a0.toInt → a0.toInt ≤ 300 → 0 ≤ b0.toInt → b0.toInt ≤ 100 → (100 - b0.toInt).toNat < n → (∀ (r : Int32) (w' : MW), BND w' → FR l_Ru_expandAllm108 w w' → (-1) ≤ r.toInt → r.toInt ≤ 500 → Q r w') → pn_Ru_expandAllm108 n w a0 b0 Q) := sorry
theorem h_Ru_expandAllm108 {w : MW} {a0 : Int32} {b0 : Int32} {Q : Int32 → MW → Prop} (hI : BND w) (hr_61_3 : w.2.2 61 3 = some 108) (hp0 : (-1) ≤ a0.toInt) (hp1 : a0.toInt ≤ 300) (hp2 : 0 ≤ b0.toInt) (hp3 : b0.toInt ≤ 100) (hQ : ∀ (r : Int32) (w' : MW), BND w' → FR l_Ru_expandAllm108 w w' → (-1) ≤ r.toInt → r.toInt ≤ 500 → Q r w') : p_Ru_expandAllm108 w a0 b0 Q := sorry
def l_Wa_remove_19 : Pl := [(16, none), (36, none), (37, none)]
def l_Wa_remove_168 : Pl := [(27, none), (28, none), (29, none), (30, none), (31, none), (32, none), (33, none)]
def l_Wa_remove : Pl := [(16, none), (26, some 1), (27, none), (28, none), (29, none), (30, none), (31, none), (32, none), (33, none), (36, none), (37, none)]
set_option maxRecDepth 20000 in
theorem hq_Wa_remove_19 {x19_1 : Int32} {x19_2 : Int32} {E : MW → Prop} {Q : MW → Prop} (n : Nat) : ∀ (x19_4 : Int32) (x19_5 : Int32) (w : MW), BND w → PL w → 0 ≤ x19_1.toInt → x19_1.toInt ≤ 23 → 0 ≤ x19_2.toInt → x19_2.toInt ≤ 1 → (-1) ≤ x19_4.toInt → x19_4.toInt ≤ 23 → 0 ≤ x19_5.toInt → x19_5.toInt ≤ 24 → (24 - x19_5.toInt).toNat < n → (∀ (w' : MW), BND w' → FR l_Wa_remove_19 w w' → E w') → (∀ (w' : MW), BND w' → FR l_Wa_remove_19 w w' → False → Q w') → q_Wa_remove_19 x19_1 x19_2 E Q n x19_4 x19_5 w := sorry
set_option maxRecDepth 20000 in
theorem hq_Wa_remove_168 {E : MW → Prop} {Q : MW → Prop} (n : Nat) : ∀ (x168_5 : Int32) (w : MW), BND w → 0 ≤ x168_5.toInt → x168_5.toInt ≤ 23 → (w.1 26 1).toInt ≤ 23 → (23 - x168_5.toInt).toNat < n → (∀ (w' : MW), BND w' → FR l_Wa_remove_168 w w' → E w') → (∀ (w' : MW), BND w' → FR l_Wa_remove_168 w w' → False → Q w') → q_Wa_remove_168 E Q n x168_5 w := sorry
set_option maxRecDepth 20000 in
theorem h_Wa_remove {w : MW} {a0 : Int32} {b0 : Int32} {Q : MW → Prop} (hI : BND w) (hf_PL : PL w) (hr_7_0 : w.2.2 7 0 = some 8) (hp0 : 0 ≤ a0.toInt) (hp1 : a0.toInt ≤ 23) (hp2 : 0 ≤ b0.toInt) (hp3 : b0.toInt ≤ 1) (hp4 : a0.toInt < (w.1 26 1).toInt) (hQ : ∀ (w' : MW), BND w' → FR l_Wa_remove w w' → (w'.1 26 1).toInt = (w.1 26 1).toInt - 1 → Q w') : p_Wa_remove w a0 b0 Q := sorry
def l_Wa_closeAll_7 : Pl := [(16, none), (26, some 1), (27, none), (28, none), (29, none), (30, none), (31, none), (32, none), (33, none), (36, none), (37, none)]
def l_Wa_closeAll : Pl := [(16, none), (26, some 1), (27, none), (28, none), (29, none), (30, none), (31, none), (32, none), (33, none), (36, none), (37, none)]
set_option maxRecDepth 20000 in
theorem hq_Wa_closeAll_7 {E : MW → Prop} {Q : MW → Prop} (n : Nat) : ∀ (x7_1 : Int32) (w : MW), BND w → PL w → w.2.2 7 0 = some 8 → (-1) ≤ x7_1.toInt → x7_1.toInt ≤ 23 → (x7_1.toInt - (-1)).toNat < n → (∀ (w' : MW), BND w' → FR l_Wa_closeAll_7 w w' → E w') → (∀ (w' : MW), BND w' → FR l_Wa_closeAll_7 w w' → False → Q w') → q_Wa_closeAll_7 E Q n x7_1 w := sorry
set_option maxRecDepth 20000 in
theorem h_Wa_closeAll {w : MW} {Q : MW → Prop} (hI : BND w) (hf_PL : PL w) (hr_7_0 : w.2.2 7 0 = some 8)  (hQ : ∀ (w' : MW), BND w' → FR l_Wa_closeAll w w' → Q w') : p_Wa_closeAll w Q := sorry
def l_Pl_addThings91_43 : Pl := [(98, none)]
def l_Pl_addThings91 : Pl := [(91, some 0), (92, none), (93, none), (94, none), (98, none)]
set_option maxRecDepth 20000 in
theorem hq_Pl_addThings91_43 {E : MW → Prop} {Q : Int32 → MW → Prop} (n : Nat) : ∀ (x43_3 : Int32) (w : MW), BND w → 0 ≤ x43_3.toInt → x43_3.toInt ≤ 4 → (w.1 91 0).toInt < 20 → (4 - x43_3.toInt).toNat < n → (∀ (w' : MW), BND w' → FR l_Pl_addThings91_43 w w' → E w') → (∀ (r : Int32) (w' : MW), BND w' → FR l_Pl_addThings91_43 w w' → False → Q r w') → q_Pl_addThings91_43 E Q n x43_3 w := sorry
set_option maxRecDepth 20000 in
theorem h_Pl_addThings91 {w : MW} {a0 : Int32} {b0 : Int32} {Q : Int32 → MW → Prop} (hI : BND w) (hp0 : 0 ≤ a0.toInt) (hp1 : a0.toInt ≤ 9) (hp2 : 0 ≤ b0.toInt) (hp3 : b0.toInt ≤ 100000) (hQ : ∀ (r : Int32) (w' : MW), BND w' → FR l_Pl_addThings91 w w' → 0 ≤ r.toInt → r.toInt ≤ 1 → Q r w') : p_Pl_addThings91 w a0 b0 Q := sorry
def l_Pl_joinss91 : Pl := [(94, none), (96, none), (97, none), (98, none)]
set_option maxRecDepth 20000 in
theorem h_Pl_joinss91 {w : MW} {a0 : Int32} {b0 : Int32} {Q : Int32 → MW → Prop} (hI : BND w) (hp0 : 0 ≤ a0.toInt) (hp1 : a0.toInt ≤ 47) (hp2 : (-1) ≤ b0.toInt) (hp3 : b0.toInt ≤ 9999999) (hQ : ∀ (r : Int32) (w' : MW), BND w' → FR l_Pl_joinss91 w w' → 0 ≤ r.toInt → r.toInt ≤ 1 → Q r w') : p_Pl_joinss91 w a0 b0 Q := sorry
def l_Pl_addPipes91 : Pl := [(91, some 1), (94, none), (95, none), (96, none), (97, none), (98, none)]
set_option maxRecDepth 20000 in
theorem h_Pl_addPipes91 {w : MW} {a0 : Int32} {b0 : Int32} {c0 : Int32} {Q : Int32 → MW → Prop} (hI : BND w) (hp0 : (-1) ≤ a0.toInt) (hp1 : a0.toInt ≤ 9999999) (hp2 : (-1) ≤ b0.toInt) (hp3 : b0.toInt ≤ 9999999) (hp4 : (-1) ≤ c0.toInt) (hp5 : c0.toInt ≤ 9999999) (hQ : ∀ (r : Int32) (w' : MW), BND w' → FR l_Pl_addPipes91 w w' → 0 ≤ r.toInt → r.toInt ≤ 1 → Q r w') : p_Pl_addPipes91 w a0 b0 c0 Q := sorry
def l_Pl_takesNumbers91_41 : Pl := [(91, some 10), (91, some 11)]
def l_Pl_takesNumbers91_7 : Pl := [(91, some 10), (91, some 11)]
def l_Pl_takesNumbers91 : Pl := [(91, some 10), (91, some 11)]
set_option maxRecDepth 20000 in
theorem hq_Pl_takesNumbers91_7 {E : Int32 → MW → Prop} {Q : Int32 → MW → Prop} (n : Nat) : ∀ (x7_1 : Int32) (w : MW), BND w → w.2.2 91 9 = some 1 → 0 ≤ x7_1.toInt → x7_1.toInt ≤ 7 → 0 ≤ (w.1 91 11).toInt → 1 ≤ x7_1.toInt ∨ (w.1 91 11).toInt ≤ 0 → 2 ≤ x7_1.toInt ∨ (w.1 91 11).toInt ≤ 9 → 3 ≤ x7_1.toInt ∨ (w.1 91 11).toInt ≤ 99 → 4 ≤ x7_1.toInt ∨ (w.1 91 11).toInt ≤ 999 → 5 ≤ x7_1.toInt ∨ (w.1 91 11).toInt ≤ 9999 → 6 ≤ x7_1.toInt ∨ (w.1 91 11).toInt ≤ 99999 → 7 ≤ x7_1.toInt ∨ (w.1 91 11).toInt ≤ 999999 → 8 ≤ x7_1.toInt ∨ (w.1 91 11).toInt ≤ 9999999 → (7 - x7_1.toInt).toNat < n → (∀ (e7_1 : Int32) (w' : MW), BND w' → FR l_Pl_takesNumbers91_7 w w' → 0 ≤ e7_1.toInt → e7_1.toInt ≤ 7 → 0 ≤ (w'.1 91 11).toInt → E e7_1 w') → (∀ (r : Int32) (w' : MW), BND w' → FR l_Pl_takesNumbers91_7 w w' → False → Q r w') → q_Pl_takesNumbers91_7 E Q n x7_1 w := sorry
set_option maxRecDepth 20000 in
theorem h_Pl_takesNumbers91 {w : MW} {Q : Int32 → MW → Prop} (hI : BND w) (hr_91_9 : w.2.2 91 9 = some 1)  (hQ : ∀ (r : Int32) (w' : MW), BND w' → FR l_Pl_takesNumbers91 w w' → 0 ≤ r.toInt → r.toInt ≤ 1 → 0 ≤ (w'.1 91 11).toInt → Q r w') : p_Pl_takesNumbers91 w Q := sorry
def l_Pl_takesPipeEnds91 : Pl := [(91, some 10), (91, some 11)]
set_option maxRecDepth 20000 in
theorem h_Pl_takesPipeEnds91 {w : MW} {Q : Int32 → MW → Prop} (hI : BND w) (hr_91_9 : w.2.2 91 9 = some 1)  (hQ : ∀ (r : Int32) (w' : MW), BND w' → FR l_Pl_takesPipeEnds91 w w' → 0 ≤ r.toInt → r.toInt ≤ 1 → Q r w') : p_Pl_takesPipeEnds91 w Q := sorry
def l_Pl_takess91_2005_2 : Pl := [(91, some 10)]
def l_Pl_takess91_2005 : Pl := [(91, some 10)]
set_option maxRecDepth 20000 in
theorem hq_Pl_takess91_2005_2 {E : MW → Prop} {Q : Int32 → MW → Prop} (n : Nat) : ∀ (x2_2 : Int32) (w : MW), BND w → w.2.2 91 9 = some 1 → 0 ≤ x2_2.toInt → x2_2.toInt ≤ 1 → (1 - x2_2.toInt).toNat < n → (∀ (w' : MW), BND w' → FR l_Pl_takess91_2005_2 w w' → E w') → (∀ (r : Int32) (w' : MW), BND w' → FR l_Pl_takess91_2005_2 w w' → 0 ≤ r.toInt → r.toInt ≤ 0 → Q r w') → q_Pl_takess91_2005_2 E Q n x2_2 w := sorry
set_option maxRecDepth 20000 in
theorem h_Pl_takess91_2005 {w : MW} {Q : Int32 → MW → Prop} (hI : BND w) (hr_91_9 : w.2.2 91 9 = some 1)  (hQ : ∀ (r : Int32) (w' : MW), BND w' → FR l_Pl_takess91_2005 w w' → 0 ≤ r.toInt → r.toInt ≤ 1 → Q r w') : p_Pl_takess91_2005 w Q := sorry
def l_Pl_readPipes91 : Pl := [(91, some 1), (91, some 10), (91, some 11), (94, none), (95, none), (96, none), (97, none), (98, none)]
set_option maxRecDepth 20000 in
theorem h_Pl_readPipes91 {w : MW} {Q : Int32 → MW → Prop} (hI : BND w) (hr_91_9 : w.2.2 91 9 = some 1)  (hQ : ∀ (r : Int32) (w' : MW), BND w' → FR l_Pl_readPipes91 w w' → 0 ≤ r.toInt → r.toInt ≤ 1 → Q r w') : p_Pl_readPipes91 w Q := sorry
def l_Pl_takess91_2001_2 : Pl := [(91, some 10)]
def l_Pl_takess91_2001 : Pl := [(91, some 10)]
set_option maxRecDepth 20000 in
theorem hq_Pl_takess91_2001_2 {E : MW → Prop} {Q : Int32 → MW → Prop} (n : Nat) : ∀ (x2_2 : Int32) (w : MW), BND w → w.2.2 91 9 = some 1 → 0 ≤ x2_2.toInt → x2_2.toInt ≤ 5 → (5 - x2_2.toInt).toNat < n → (∀ (w' : MW), BND w' → FR l_Pl_takess91_2001_2 w w' → E w') → (∀ (r : Int32) (w' : MW), BND w' → FR l_Pl_takess91_2001_2 w w' → 0 ≤ r.toInt → r.toInt ≤ 0 → Q r w') → q_Pl_takess91_2001_2 E Q n x2_2 w := sorry
set_option maxRecDepth 20000 in
theorem h_Pl_takess91_2001 {w : MW} {Q : Int32 → MW → Prop} (hI : BND w) (hr_91_9 : w.2.2 91 9 = some 1)  (hQ : ∀ (r : Int32) (w' : MW), BND w' → FR l_Pl_takess91_2001 w w' → 0 ≤ r.toInt → r.toInt ≤ 1 → Q r w') : p_Pl_takess91_2001 w Q := sorry
def l_Pl_takess91_2002_2 : Pl := [(91, some 10)]
def l_Pl_takess91_2002 : Pl := [(91, some 10)]
set_option maxRecDepth 20000 in
theorem hq_Pl_takess91_2002_2 {E : MW → Prop} {Q : Int32 → MW → Prop} (n : Nat) : ∀ (x2_2 : Int32) (w : MW), BND w → w.2.2 91 9 = some 1 → 0 ≤ x2_2.toInt → x2_2.toInt ≤ 6 → (6 - x2_2.toInt).toNat < n → (∀ (w' : MW), BND w' → FR l_Pl_takess91_2002_2 w w' → E w') → (∀ (r : Int32) (w' : MW), BND w' → FR l_Pl_takess91_2002_2 w w' → 0 ≤ r.toInt → r.toInt ≤ 0 → Q r w') → q_Pl_takess91_2002_2 E Q n x2_2 w := sorry
set_option maxRecDepth 20000 in
theorem h_Pl_takess91_2002 {w : MW} {Q : Int32 → MW → Prop} (hI : BND w) (hr_91_9 : w.2.2 91 9 = some 1)  (hQ : ∀ (r : Int32) (w' : MW), BND w' → FR l_Pl_takess91_2002 w w' → 0 ≤ r.toInt → r.toInt ≤ 1 → Q r w') : p_Pl_takess91_2002 w Q := sorry
def l_Pl_takess91_2003_2 : Pl := [(91, some 10)]
def l_Pl_takess91_2003 : Pl := [(91, some 10)]
set_option maxRecDepth 20000 in
theorem hq_Pl_takess91_2003_2 {E : MW → Prop} {Q : Int32 → MW → Prop} (n : Nat) : ∀ (x2_2 : Int32) (w : MW), BND w → w.2.2 91 9 = some 1 → 0 ≤ x2_2.toInt → x2_2.toInt ≤ 4 → (4 - x2_2.toInt).toNat < n → (∀ (w' : MW), BND w' → FR l_Pl_takess91_2003_2 w w' → E w') → (∀ (r : Int32) (w' : MW), BND w' → FR l_Pl_takess91_2003_2 w w' → 0 ≤ r.toInt → r.toInt ≤ 0 → Q r w') → q_Pl_takess91_2003_2 E Q n x2_2 w := sorry
set_option maxRecDepth 20000 in
theorem h_Pl_takess91_2003 {w : MW} {Q : Int32 → MW → Prop} (hI : BND w) (hr_91_9 : w.2.2 91 9 = some 1)  (hQ : ∀ (r : Int32) (w' : MW), BND w' → FR l_Pl_takess91_2003 w w' → 0 ≤ r.toInt → r.toInt ≤ 1 → Q r w') : p_Pl_takess91_2003 w Q := sorry
def l_Pl_takess91_2004_2 : Pl := [(91, some 10)]
def l_Pl_takess91_2004 : Pl := [(91, some 10)]
set_option maxRecDepth 20000 in
theorem hq_Pl_takess91_2004_2 {E : MW → Prop} {Q : Int32 → MW → Prop} (n : Nat) : ∀ (x2_2 : Int32) (w : MW), BND w → w.2.2 91 9 = some 1 → 0 ≤ x2_2.toInt → x2_2.toInt ≤ 5 → (5 - x2_2.toInt).toNat < n → (∀ (w' : MW), BND w' → FR l_Pl_takess91_2004_2 w w' → E w') → (∀ (r : Int32) (w' : MW), BND w' → FR l_Pl_takess91_2004_2 w w' → 0 ≤ r.toInt → r.toInt ≤ 0 → Q r w') → q_Pl_takess91_2004_2 E Q n x2_2 w := sorry
set_option maxRecDepth 20000 in
theorem h_Pl_takess91_2004 {w : MW} {Q : Int32 → MW → Prop} (hI : BND w) (hr_91_9 : w.2.2 91 9 = some 1)  (hQ : ∀ (r : Int32) (w' : MW), BND w' → FR l_Pl_takess91_2004 w w' → 0 ≤ r.toInt → r.toInt ≤ 1 → Q r w') : p_Pl_takess91_2004 w Q := sorry
def l_Pl_readLines91_207 : Pl := [(91, some 1), (91, some 10), (91, some 11), (94, none), (95, none), (96, none), (97, none), (98, none)]
def l_Pl_readLines91 : Pl := [(91, some 0), (91, some 1), (91, some 10), (91, some 11), (92, none), (93, none), (94, none), (95, none), (96, none), (97, none), (98, none)]
set_option maxRecDepth 20000 in
theorem hq_Pl_readLines91_207 {w : MW} {Q : Int32 → MW → Prop} (hI : BND w) (hr_91_9 : w.2.2 91 9 = some 1)  (hQ : ∀ (r : Int32) (w' : MW), BND w' → FR l_Pl_readLines91_207 w w' → 0 ≤ r.toInt → r.toInt ≤ 1 → Q r w') : q_Pl_readLines91_207 w Q := sorry
set_option maxRecDepth 20000 in
theorem h_Pl_readLines91 {w : MW} {Q : Int32 → MW → Prop} (hI : BND w) (hr_91_9 : w.2.2 91 9 = some 1)  (hQ : ∀ (r : Int32) (w' : MW), BND w' → FR l_Pl_readLines91 w w' → 0 ≤ r.toInt → r.toInt ≤ 1 → Q r w') : p_Pl_readLines91 w Q := sorry
def l_Pl_reads91_1_22 : Pl := [(91, some 0), (91, some 1), (91, some 10), (91, some 11), (92, none), (93, none), (94, none), (95, none), (96, none), (97, none), (98, none)]
def l_Pl_reads91_1 : Pl := [(91, some 0), (91, some 1), (91, some 9), (91, some 10), (91, some 11), (92, none), (93, none), (94, none), (95, none), (96, none), (97, none), (98, none)]
set_option maxRecDepth 20000 in
theorem hq_Pl_reads91_1_22 {E : MW → Prop} {Q : Int32 → MW → Prop} (n : Nat) : ∀ (x22_2 : Int32) (w : MW), BND w → w.2.2 91 9 = some 1 → 0 ≤ x22_2.toInt → x22_2.toInt ≤ 4001 → (4001 - x22_2.toInt).toNat < n → (∀ (w' : MW), BND w' → FR l_Pl_reads91_1_22 w w' → E w') → (∀ (r : Int32) (w' : MW), BND w' → FR l_Pl_reads91_1_22 w w' → Q r w') → q_Pl_reads91_1_22 E Q n x22_2 w := sorry
set_option maxRecDepth 20000 in
theorem h_Pl_reads91_1 {w : MW} {Q : Int32 → MW → Prop} (hI : BND w) (hr_91_9 : w.2.2 91 9 = some 1)  (hQ : ∀ (r : Int32) (w' : MW), BND w' → FR l_Pl_reads91_1 w w' → Q r w') : p_Pl_reads91_1 w Q := sorry
def l_Rd_makeNode : Pl := [(87, some 9), (88, none), (89, none), (108, some 1), (109, none), (110, none), (111, none), (112, none), (113, none), (114, none)]
set_option maxRecDepth 20000 in
theorem h_Rd_makeNode {w : MW} {a0 : Int32} {b0 : Int32} {Q : Int32 → MW → Prop} (hI : BND w) (hr_87_1 : w.2.2 87 1 = some 108)  (hQ : ∀ (r : Int32) (w' : MW), BND w' → FR l_Rd_makeNode w w' → 0 ≤ r.toInt → r.toInt ≤ 300 → Q r w') : p_Rd_makeNode w a0 b0 Q := sorry
def l_Rd_scanLetters_39 : Pl := [(87, some 2), (87, some 5)]
def l_Rd_scanLetters_19 : Pl := [(87, some 2), (87, some 5)]
def l_Rd_scanLetters_93 : Pl := [(87, some 3)]
def l_Rd_scanLetters : Pl := [(87, some 2), (87, some 3), (87, some 5)]
set_option maxRecDepth 20000 in
theorem hq_Rd_scanLetters_19 {E : MW → Prop} {Q : MW → Prop} (n : Nat) : ∀ (x19_1 : Int32) (x19_2 : Int32) (w : MW), BND w → w.2.2 87 0 = some 1 → (-1) ≤ x19_1.toInt → x19_1.toInt ≤ 255 → 0 ≤ x19_2.toInt → x19_2.toInt ≤ 12 → x19_1.toInt < 0 ∨ (w.1 87 2).toInt < (w.1 1 2).toInt → (12 - x19_2.toInt).toNat < n → (∀ (w' : MW), BND w' → FR l_Rd_scanLetters_19 w w' → E w') → (∀ (w' : MW), BND w' → FR l_Rd_scanLetters_19 w w' → False → Q w') → q_Rd_scanLetters_19 E Q n x19_1 x19_2 w := sorry
set_option maxRecDepth 20000 in
theorem hq_Rd_scanLetters_93 {E : MW → Prop} {Q : MW → Prop} (n : Nat) : ∀ (x93_2 : Int32) (w : MW), BND w → 0 ≤ x93_2.toInt → x93_2.toInt ≤ 26 → (26 - x93_2.toInt).toNat < n → (∀ (w' : MW), BND w' → FR l_Rd_scanLetters_93 w w' → E w') → (∀ (w' : MW), BND w' → FR l_Rd_scanLetters_93 w w' → False → Q w') → q_Rd_scanLetters_93 E Q n x93_2 w := sorry
set_option maxRecDepth 20000 in
theorem h_Rd_scanLetters {w : MW} {Q : MW → Prop} (hI : BND w) (hr_87_0 : w.2.2 87 0 = some 1)  (hQ : ∀ (w' : MW), BND w' → FR l_Rd_scanLetters w w' → Q w') : p_Rd_scanLetters w Q := sorry
def l_Rd_scanNumber_13 : Pl := [(87, some 2), (87, some 6)]
def l_Rd_scanNumber_172 : Pl := [(87, some 2), (87, some 6)]
def l_Rd_scanNumber_154 : Pl := [(87, some 2), (87, some 6)]
def l_Rd_scanNumber : Pl := [(87, some 2), (87, some 3), (87, some 6), (87, some 7)]
set_option maxRecDepth 20000 in
theorem hq_Rd_scanNumber_13 {E : MW → Prop} {Q : MW → Prop} (n : Nat) : ∀ (x13_1 : Int32) (w : MW), BND w → w.2.2 87 0 = some 1 → 0 ≤ x13_1.toInt → x13_1.toInt ≤ 9 → (9 - x13_1.toInt).toNat < n → (∀ (w' : MW), BND w' → FR l_Rd_scanNumber_13 w w' → E w') → (∀ (w' : MW), BND w' → FR l_Rd_scanNumber_13 w w' → False → Q w') → q_Rd_scanNumber_13 E Q n x13_1 w := sorry
set_option maxRecDepth 20000 in
theorem hq_Rd_scanNumber_172 {E : MW → Prop} {Q : MW → Prop} (n : Nat) : ∀ (x172_1 : Int32) (w : MW), BND w → w.2.2 87 0 = some 1 → 0 ≤ x172_1.toInt → x172_1.toInt ≤ 100 → (x172_1.toInt - 0).toNat < n → (∀ (w' : MW), BND w' → FR l_Rd_scanNumber_172 w w' → E w') → (∀ (w' : MW), BND w' → FR l_Rd_scanNumber_172 w w' → False → Q w') → q_Rd_scanNumber_172 E Q n x172_1 w := sorry
set_option maxRecDepth 20000 in
theorem hq_Rd_scanNumber_154 {ys154_0 : Int32} {ys154_1 : Int32} {w : MW} {Q : MW → Prop} (hI : BND w) (hr_87_0 : w.2.2 87 0 = some 1) (hp0 : 0 ≤ ys154_0.toInt) (hp1 : ys154_0.toInt ≤ 1) (hp2 : 0 ≤ ys154_1.toInt) (hp3 : ys154_1.toInt ≤ 4000) (hp4 : ys154_0.toInt = 0 ∨ (ys154_0.toInt = 1 ∧ ys154_1.toInt < 4000)) (hp5 : 0 ≤ ys154_1.toInt) (hp6 : ys154_1.toInt ≤ 4000) (hQ : ∀ (w' : MW), BND w' → FR l_Rd_scanNumber_154 w w' → Q w') : q_Rd_scanNumber_154 ys154_0 ys154_1 w Q := sorry
set_option maxRecDepth 20000 in
theorem h_Rd_scanNumber {w : MW} {Q : MW → Prop} (hI : BND w) (hr_87_0 : w.2.2 87 0 = some 1)  (hQ : ∀ (w' : MW), BND w' → FR l_Rd_scanNumber w w' → Q w') : p_Rd_scanNumber w Q := sorry
def l_Rd_nextWord_0 : Pl := [(87, some 2)]
def l_Rd_nextWord_144 : Pl := [(87, some 3), (87, some 4), (87, some 9)]
def l_Rd_nextWord : Pl := [(87, some 2), (87, some 3), (87, some 4), (87, some 5), (87, some 6), (87, some 7), (87, some 9)]
set_option maxRecDepth 20000 in
theorem hq_Rd_nextWord_0 {E : MW → Prop} {Q : MW → Prop} (n : Nat) : ∀ (w : MW), BND w → w.2.2 87 0 = some 1 → (4000 - (w.1 87 2).toInt).toNat < n → (∀ (w' : MW), BND w' → FR l_Rd_nextWord_0 w w' → E w') → (∀ (w' : MW), BND w' → FR l_Rd_nextWord_0 w w' → False → Q w') → q_Rd_nextWord_0 E Q n w := sorry
set_option maxRecDepth 20000 in
theorem hq_Rd_nextWord_144 {w : MW} {Q : MW → Prop} (hI : BND w) (hr_87_0 : w.2.2 87 0 = some 1)  (hQ : ∀ (w' : MW), BND w' → FR l_Rd_nextWord_144 w w' → Q w') : q_Rd_nextWord_144 w Q := sorry
set_option maxRecDepth 20000 in
theorem h_Rd_nextWord {w : MW} {Q : MW → Prop} (hI : BND w) (hr_87_0 : w.2.2 87 0 = some 1)  (hQ : ∀ (w' : MW), BND w' → FR l_Rd_nextWord w w' → Q w') : p_Rd_nextWord w Q := sorry
def l_Rd_join_94 : Pl := [(87, some 9), (88, none), (89, none), (108, some 1), (109, none), (110, none), (111, none), (112, none), (113, none), (114, none)]
def l_Rd_join_20 : Pl := [(87, some 9), (88, none), (89, none), (108, some 1), (109, none), (110, none), (111, none), (112, none), (113, none), (114, none)]
def l_Rd_join : Pl := [(87, some 9), (88, none), (89, none), (108, some 1), (109, none), (110, none), (111, none), (112, none), (113, none), (114, none)]
set_option maxRecDepth 20000 in
theorem h_Rd_join {w : MW} {a0 : Int32} {b0 : Int32} {c0 : Int32} {e0 : Int32} {Q : Int32 → MW → Prop} (hI : BND w) (hr_87_1 : w.2.2 87 1 = some 108)  (hQ : ∀ (r : Int32) (w' : MW), BND w' → FR l_Rd_join w w' → Q r w') : p_Rd_join w a0 b0 c0 e0 Q := sorry
def l_Rd_levelOf : Pl := []
set_option maxRecDepth 20000 in
theorem h_Rd_levelOf {w : MW} {a0 : Int32} {Q : Int32 → MW → Prop} (hI : BND w)  (hQ : ∀ (r : Int32) (w' : MW), BND w' → FR l_Rd_levelOf w w' → 0 ≤ r.toInt → r.toInt ≤ 3 → Q r w') : p_Rd_levelOf w a0 Q := sorry
def l_Pr_finds108_2 : Pl := []
def l_Pr_finds108 : Pl := []
set_option maxRecDepth 20000 in
theorem hq_Pr_finds108_2 {x2_1 : Int64} {E : MW → Prop} {Q : Int32 → MW → Prop} (n : Nat) : ∀ (x2_3 : Int32) (w : MW), BND w → 0 ≤ x2_3.toInt → x2_3.toInt ≤ 40 → (40 - x2_3.toInt).toNat < n → (∀ (w' : MW), BND w' → FR l_Pr_finds108_2 w w' → E w') → (∀ (r : Int32) (w' : MW), BND w' → FR l_Pr_finds108_2 w w' → 0 ≤ r.toInt → r.toInt ≤ 39 → Q r w') → q_Pr_finds108_2 x2_1 E Q n x2_3 w := sorry
set_option maxRecDepth 20000 in
theorem h_Pr_finds108 {w : MW} {a0 : Int64} {Q : Int32 → MW → Prop} (hI : BND w)  (hQ : ∀ (r : Int32) (w' : MW), BND w' → FR l_Pr_finds108 w w' → (-1) ≤ r.toInt → r.toInt ≤ 39 → Q r w') : p_Pr_finds108 w a0 Q := sorry
def l_Rd_readFactor_284 : Pl := [(87, some 2), (87, some 3), (87, some 4), (87, some 5), (87, some 6), (87, some 7), (87, some 8), (87, some 9), (88, none), (89, none), (108, some 1), (109, none), (110, none), (111, none), (112, none), (113, none), (114, none)]
def l_Rd_readFactor_201 : Pl := [(87, some 2), (87, some 3), (87, some 4), (87, some 5), (87, some 6), (87, some 7), (87, some 9), (88, none), (89, none), (108, some 1), (109, none), (110, none), (111, none), (112, none), (113, none), (114, none), (115, none)]
def l_Rd_readFactor_137 : Pl := [(87, some 2), (87, some 3), (87, some 4), (87, some 5), (87, some 6), (87, some 7), (87, some 9), (88, none), (89, none), (108, some 1), (109, none), (110, none), (111, none), (112, none), (113, none), (114, none), (115, none)]
def l_Rd_readFactor_88 : Pl := [(87, some 2), (87, some 3), (87, some 4), (87, some 5), (87, some 6), (87, some 7), (87, some 8), (87, some 9), (88, none), (89, none), (108, some 1), (109, none), (110, none), (111, none), (112, none), (113, none), (114, none), (115, none)]
def l_Rd_readFactor_53 : Pl := [(87, some 2), (87, some 3), (87, some 4), (87, some 5), (87, some 6), (87, some 7), (87, some 8), (87, some 9), (88, none), (89, none), (108, some 1), (109, none), (110, none), (111, none), (112, none), (113, none), (114, none), (115, none)]
def l_Rd_readFactor_26 : Pl := [(87, some 2), (87, some 3), (87, some 4), (87, some 5), (87, some 6), (87, some 7), (87, some 8), (87, some 9), (88, none), (89, none), (108, some 1), (109, none), (110, none), (111, none), (112, none), (113, none), (114, none), (115, none)]
def l_Rd_readFactor : Pl := [(87, some 2), (87, some 3), (87, some 4), (87, some 5), (87, some 6), (87, some 7), (87, some 8), (87, some 9), (88, none), (89, none), (108, some 1), (109, none), (110, none), (111, none), (112, none), (113, none), (114, none), (115, none)]
def l_Rd_readLevel_38 : Pl := [(87, some 2), (87, some 3), (87, some 4), (87, some 5), (87, some 6), (87, some 7), (87, some 8), (87, some 9), (88, none), (89, none), (108, some 1), (109, none), (110, none), (111, none), (112, none), (113, none), (114, none), (115, none)]
def l_Rd_readLevel_33 : Pl := [(87, some 2), (87, some 3), (87, some 4), (87, some 5), (87, some 6), (87, some 7), (87, some 8), (87, some 9), (88, none), (89, none), (108, some 1), (109, none), (110, none), (111, none), (112, none), (113, none), (114, none), (115, none)]
def l_Rd_readLevel : Pl := [(87, some 2), (87, some 3), (87, some 4), (87, some 5), (87, some 6), (87, some 7), (87, some 8), (87, some 9), (88, none), (89, none), (108, some 1), (109, none), (110, none), (111, none), (112, none), (113, none), (114, none), (115, none)]
set_option maxRecDepth 20000 in
theorem hq_Rd_readFactor_88 {nn : Nat} {r_Rd_readFactor : MW → (Int32 → MW → Prop) → Prop} {r_Rd_readLevel : MW → Int32 → (Int32 → MW → Prop) → Prop} (hr_Rd_readFactor : ∀ (w : MW) (Q : Int32 → MW → Prop), BND w → w.2.2 87 0 = some 1 → w.2.2 87 1 = some 108 → (4 * (20 - (w.1 87 8).toInt)).toNat < nn → (∀ (r : Int32) (w' : MW), BND w' → FR l_Rd_readFactor w w' → (w'.1 87 8).toInt = (w.1 87 8).toInt → Q r w') → r_Rd_readFactor w Q) (hr_Rd_readLevel : ∀ (w : MW) (a0 : Int32) (Q : Int32 → MW → Prop), BND w → w.2.2 87 0 = some 1 → w.2.2 87 1 = some 108 → 0 ≤ a0.toInt → a0.toInt ≤ 2 → (4 * (20 - (w.1 87 8).toInt) + (3 - a0.toInt)).toNat < nn → (∀ (r : Int32) (w' : MW), BND w' → FR l_Rd_readLevel w w' → (w'.1 87 8).toInt = (w.1 87 8).toInt → Q r w') → r_Rd_readLevel w a0 Q) {y88_1 : Int32} {y88_2 : Int32} {w : MW} {Q : Int32 → MW → Prop} (hI : BND w) (hr_87_0 : w.2.2 87 0 = some 1) (hr_87_1 : w.2.2 87 1 = some 108) (hp0 : (-1) ≤ y88_2.toInt) (hp1 : y88_2.toInt ≤ 39) (hp2 : ¬ (y88_1.toInt = 40 ∨ y88_1.toInt = 45) ∨ (w.1 87 8).toInt < 20) (hp3 : ¬ y88_1.toInt = 30 ∨ (0 ≤ y88_2.toInt ∧ y88_2.toInt ≤ 39)) (hp4 : y88_1.toInt = 30 ∨ y88_1.toInt = 31 ∨ y88_1.toInt = 40 ∨ y88_1.toInt = 45) (hp5 : (4 * (20 - (w.1 87 8).toInt)).toNat ≤ nn) (hQ : ∀ (r : Int32) (w' : MW), BND w' → FR l_Rd_readFactor_88 w w' → (w'.1 87 8).toInt = (w.1 87 8).toInt → Q r w') : q_Rd_readFactor_88 r_Rd_readFactor r_Rd_readLevel y88_1 y88_2 w Q := sorry
set_option maxRecDepth 20000 in
theorem hq_Rd_readFactor_53 {nn : Nat} {r_Rd_readFactor : MW → (Int32 → MW → Prop) → Prop} {r_Rd_readLevel : MW → Int32 → (Int32 → MW → Prop) → Prop} (hr_Rd_readFactor : ∀ (w : MW) (Q : Int32 → MW → Prop), BND w → w.2.2 87 0 = some 1 → w.2.2 87 1 = some 108 → (4 * (20 - (w.1 87 8).toInt)).toNat < nn → (∀ (r : Int32) (w' : MW), BND w' → FR l_Rd_readFactor w w' → (w'.1 87 8).toInt = (w.1 87 8).toInt → Q r w') → r_Rd_readFactor w Q) (hr_Rd_readLevel : ∀ (w : MW) (a0 : Int32) (Q : Int32 → MW → Prop), BND w → w.2.2 87 0 = some 1 → w.2.2 87 1 = some 108 → 0 ≤ a0.toInt → a0.toInt ≤ 2 → (4 * (20 - (w.1 87 8).toInt) + (3 - a0.toInt)).toNat < nn → (∀ (r : Int32) (w' : MW), BND w' → FR l_Rd_readLevel w w' → (w'.1 87 8).toInt = (w.1 87 8).toInt → Q r w') → r_Rd_readLevel w a0 Q) {y53_1 : Int32} {y53_2 : Int32} {ys53_0 : Int32} {w : MW} {Q : Int32 → MW → Prop} (hI : BND w) (hr_87_0 : w.2.2 87 0 = some 1) (hr_87_1 : w.2.2 87 1 = some 108) (hp0 : (-1) ≤ y53_2.toInt) (hp1 : y53_2.toInt ≤ 39) (hp2 : 0 ≤ ys53_0.toInt) (hp3 : ys53_0.toInt ≤ 1) (hp4 : ys53_0.toInt = 0 ∨ (w.1 87 8).toInt < 20) (hp5 : y53_1.toInt = 30 ∨ y53_2.toInt = -1) (hp6 : ys53_0.toInt = 1 ∨ ¬ ((y53_1.toInt = 40 ∨ y53_1.toInt = 45) ∧ (w.1 87 8).toInt < 20)) (hp7 : (4 * (20 - (w.1 87 8).toInt)).toNat ≤ nn) (hQ : ∀ (r : Int32) (w' : MW), BND w' → FR l_Rd_readFactor_53 w w' → (w'.1 87 8).toInt = (w.1 87 8).toInt → Q r w') : q_Rd_readFactor_53 r_Rd_readFactor r_Rd_readLevel y53_1 y53_2 ys53_0 w Q := sorry
set_option maxRecDepth 20000 in
theorem hb_Rd_readFactor {nn : Nat} {r_Rd_readFactor : MW → (Int32 → MW → Prop) → Prop} {r_Rd_readLevel : MW → Int32 → (Int32 → MW → Prop) → Prop} (hr_Rd_readFactor : ∀ (w : MW) (Q : Int32 → MW → Prop), BND w → w.2.2 87 0 = some 1 → w.2.2 87 1 = some 108 → (4 * (20 - (w.1 87 8).toInt)).toNat < nn → (∀ (r : Int32) (w' : MW), BND w' → FR l_Rd_readFactor w w' → (w'.1 87 8).toInt = (w.1 87 8).toInt → Q r w') → r_Rd_readFactor w Q) (hr_Rd_readLevel : ∀ (w : MW) (a0 : Int32) (Q : Int32 → MW → Prop), BND w → w.2.2 87 0 = some 1 → w.2.2 87 1 = some 108 → 0 ≤ a0.toInt → a0.toInt ≤ 2 → (4 * (20 - (w.1 87 8).toInt) + (3 - a0.toInt)).toNat < nn → (∀ (r : Int32) (w' : MW), BND w' → FR l_Rd_readLevel w w' → (w'.1 87 8).toInt = (w.1 87 8).toInt → Q r w') → r_Rd_readLevel w a0 Q) {w : MW} {Q : Int32 → MW → Prop} (hI : BND w) (hr_87_0 : w.2.2 87 0 = some 1) (hr_87_1 : w.2.2 87 1 = some 108)  (hn : (4 * (20 - (w.1 87 8).toInt)).toNat ≤ nn) (hQ : ∀ (r : Int32) (w' : MW), BND w' → FR l_Rd_readFactor w w' → (w'.1 87 8).toInt = (w.1 87 8).toInt → Q r w') : pb_Rd_readFactor r_Rd_readFactor r_Rd_readLevel w Q := sorry
set_option maxRecDepth 20000 in
theorem hq_Rd_readLevel_38 {nn : Nat} {r_Rd_readFactor : MW → (Int32 → MW → Prop) → Prop} {r_Rd_readLevel : MW → Int32 → (Int32 → MW → Prop) → Prop} (hr_Rd_readFactor : ∀ (w : MW) (Q : Int32 → MW → Prop), BND w → w.2.2 87 0 = some 1 → w.2.2 87 1 = some 108 → (4 * (20 - (w.1 87 8).toInt)).toNat < nn → (∀ (r : Int32) (w' : MW), BND w' → FR l_Rd_readFactor w w' → (w'.1 87 8).toInt = (w.1 87 8).toInt → Q r w') → r_Rd_readFactor w Q) (hr_Rd_readLevel : ∀ (w : MW) (a0 : Int32) (Q : Int32 → MW → Prop), BND w → w.2.2 87 0 = some 1 → w.2.2 87 1 = some 108 → 0 ≤ a0.toInt → a0.toInt ≤ 2 → (4 * (20 - (w.1 87 8).toInt) + (3 - a0.toInt)).toNat < nn → (∀ (r : Int32) (w' : MW), BND w' → FR l_Rd_readLevel w w' → (w'.1 87 8).toInt = (w.1 87 8).toInt → Q r w') → r_Rd_readLevel w a0 Q) {x38_1 : Int32} {x38_2 : Int32} {x38_4 : Int32} {E : Int32 → Int32 → MW → Prop} {Q : Int32 → MW → Prop} (n : Nat) : ∀ (x38_3 : Int32) (x38_5 : Int32) (w : MW), BND w → w.2.2 87 0 = some 1 → w.2.2 87 1 = some 108 → 0 ≤ x38_1.toInt → x38_1.toInt ≤ 2 → 1 ≤ x38_2.toInt → x38_2.toInt ≤ 3 → 1 ≤ x38_4.toInt → x38_4.toInt ≤ 4000 → 0 ≤ x38_5.toInt → x38_5.toInt ≤ 4000 → (4 * (20 - (w.1 87 8).toInt) + (3 - x38_1.toInt)).toNat ≤ nn → (4000 - x38_5.toInt).toNat < n → (∀ (e38_3 : Int32) (e38_5 : Int32) (w' : MW), BND w' → FR l_Rd_readLevel_38 w w' → 0 ≤ e38_5.toInt → e38_5.toInt ≤ 4000 → (w'.1 87 8).toInt = (w.1 87 8).toInt → E e38_3 e38_5 w') → (∀ (r : Int32) (w' : MW), BND w' → FR l_Rd_readLevel_38 w w' → False → Q r w') → q_Rd_readLevel_38 r_Rd_readFactor r_Rd_readLevel x38_1 x38_2 x38_4 E Q n x38_3 x38_5 w := sorry
set_option maxRecDepth 20000 in
theorem hb_Rd_readLevel {nn : Nat} {r_Rd_readFactor : MW → (Int32 → MW → Prop) → Prop} {r_Rd_readLevel : MW → Int32 → (Int32 → MW → Prop) → Prop} (hr_Rd_readFactor : ∀ (w : MW) (Q : Int32 → MW → Prop), BND w → w.2.2 87 0 = some 1 → w.2.2 87 1 = some 108 → (4 * (20 - (w.1 87 8).toInt)).toNat < nn → (∀ (r : Int32) (w' : MW), BND w' → FR l_Rd_readFactor w w' → (w'.1 87 8).toInt = (w.1 87 8).toInt → Q r w') → r_Rd_readFactor w Q) (hr_Rd_readLevel : ∀ (w : MW) (a0 : Int32) (Q : Int32 → MW → Prop), BND w → w.2.2 87 0 = some 1 → w.2.2 87 1 = some 108 → 0 ≤ a0.toInt → a0.toInt ≤ 2 → (4 * (20 - (w.1 87 8).toInt) + (3 - a0.toInt)).toNat < nn → (∀ (r : Int32) (w' : MW), BND w' → FR l_Rd_readLevel w w' → (w'.1 87 8).toInt = (w.1 87 8).toInt → Q r w') → r_Rd_readLevel w a0 Q) {w : MW} {a0 : Int32} {Q : Int32 → MW → Prop} (hI : BND w) (hr_87_0 : w.2.2 87 0 = some 1) (hr_87_1 : w.2.2 87 1 = some 108) (hp0 : 0 ≤ a0.toInt) (hp1 : a0.toInt ≤ 2) (hn : (4 * (20 - (w.1 87 8).toInt) + (3 - a0.toInt)).toNat ≤ nn) (hQ : ∀ (r : Int32) (w' : MW), BND w' → FR l_Rd_readLevel w w' → (w'.1 87 8).toInt = (w.1 87 8).toInt → Q r w') : pb_Rd_readLevel r_Rd_readFactor r_Rd_readLevel w a0 Q := sorry
theorem ha_Rd_readFactor (n : Nat) : (∀ (w : MW) (Q : Int32 → MW → Prop), BND w → w.2.2 87 0 = some 1 → w.2.2 87 1 = some 108 → (4 * (20 - (w.1 87 8).toInt)).toNat < n → (∀ (r : Int32) (w' : MW), BND w' → FR l_Rd_readFactor w w' → (w'.1 87 8).toInt = (w.1 87 8).toInt → Q r w') → pn_Rd_readFactor n w Q) ∧ (∀ (w : MW) (a0 : Int32) (Q : Int32 → MW → Prop), BND w → w.2.2 87 0 = some 1 → w.2.2 87 1 = some 108 → 0 ≤ a0.toInt → a0.toInt ≤ 2 → (4 * (20 - (w.1 87 8).toInt) + (3 - a0.toInt)).toNat < n → (∀ (r : Int32) (w' : MW), BND w' → FR l_Rd_readLevel w w' → (w'.1 87 8).toInt = (w.1 87 8).toInt → Q r w') → pn_Rd_readLevel n w a0 Q) := sorry
theorem h_Rd_readFactor {w : MW} {Q : Int32 → MW → Prop} (hI : BND w) (hr_87_0 : w.2.2 87 0 = some 1) (hr_87_1 : w.2.2 87 1 = some 108)  (hQ : ∀ (r : Int32) (w' : MW), BND w' → FR l_Rd_readFactor w w' → (w'.1 87 8).toInt = (w.1 87 8).toInt → Q r w') : p_Rd_readFactor w Q := sorry
theorem h_Rd_readLevel {w : MW} {a0 : Int32} {Q : Int32 → MW → Prop} (hI : BND w) (hr_87_0 : w.2.2 87 0 = some 1) (hr_87_1 : w.2.2 87 1 = some 108) (hp0 : 0 ≤ a0.toInt) (hp1 : a0.toInt ≤ 2) (hQ : ∀ (r : Int32) (w' : MW), BND w' → FR l_Rd_readLevel w w' → (w'.1 87 8).toInt = (w.1 87 8).toInt → Q r w') : p_Rd_readLevel w a0 Q := sorry
def l_Rd_take : Pl := [(87, some 2), (87, some 3), (87, some 4), (87, some 5), (87, some 6), (87, some 7), (87, some 9)]
set_option maxRecDepth 20000 in
theorem h_Rd_take {w : MW} {a0 : Int32} {Q : MW → Prop} (hI : BND w) (hr_87_0 : w.2.2 87 0 = some 1) (hp0 : 15 ≤ a0.toInt) (hp1 : a0.toInt ≤ 125) (hQ : ∀ (w' : MW), BND w' → FR l_Rd_take w w' → Q w') : p_Rd_take w a0 Q := sorry
def l_Rd_takeName_31 : Pl := [(87, some 2), (87, some 3), (87, some 4), (87, some 5), (87, some 6), (87, some 7), (87, some 9)]
def l_Rd_takeName : Pl := [(87, some 2), (87, some 3), (87, some 4), (87, some 5), (87, some 6), (87, some 7), (87, some 9)]
set_option maxRecDepth 20000 in
theorem h_Rd_takeName {w : MW} {a0 : Int32} {Q : Int32 → MW → Prop} (hI : BND w) (hr_87_0 : w.2.2 87 0 = some 1) (hr_87_1 : w.2.2 87 1 = some 108) (hp0 : 8 ≤ a0.toInt) (hp1 : a0.toInt ≤ 10) (hQ : ∀ (r : Int32) (w' : MW), BND w' → FR l_Rd_takeName w w' → (-1) ≤ r.toInt → r.toInt ≤ 39 → Q r w') : p_Rd_takeName w a0 Q := sorry
def l_Rd_readChange_38 : Pl := [(87, some 2), (87, some 3), (87, some 4), (87, some 5), (87, some 6), (87, some 7), (87, some 8), (87, some 9), (88, none), (89, none), (108, some 1), (109, none), (110, none), (111, none), (112, none), (113, none), (114, none), (115, none)]
def l_Rd_readChange : Pl := [(87, some 2), (87, some 3), (87, some 4), (87, some 5), (87, some 6), (87, some 7), (87, some 8), (87, some 9), (88, none), (89, none), (108, some 1), (109, none), (110, none), (111, none), (112, none), (113, none), (114, none), (115, none)]
set_option maxRecDepth 20000 in
theorem h_Rd_readChange {w : MW} {a0 : Int32} {Q : Int32 → MW → Prop} (hI : BND w) (hr_87_0 : w.2.2 87 0 = some 1) (hr_87_1 : w.2.2 87 1 = some 108) (hp0 : 11 ≤ a0.toInt) (hp1 : a0.toInt ≤ 14) (hQ : ∀ (r : Int32) (w' : MW), BND w' → FR l_Rd_readChange w w' → 0 ≤ r.toInt → r.toInt ≤ 300 → Q r w') : p_Rd_readChange w a0 Q := sorry
