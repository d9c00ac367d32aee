/-! the class's reader: all statements -/
theorem x_rguard {B S : MW → (Int32 → MW → Prop) → Prop} {G : MW → Int32 → (Int32 → MW → Prop) → Prop} {P : MW → (Int32 → MW → Prop) → Prop} {w : MW} {a : Int32} {Q : Int32 → MW → Prop} (hw : RN w) (ha : a.toInt = 17 ∨ a.toInt = 19 ∨ a.toInt = 20) (hB : RcS 35 35 (w.1 87 8).toInt B) (hQ : ∀ r w', StO 11 26 w r w' → Q r w') : pb_Rd_readGuarded B G P S w a Q := by
  have b1 := bd_108_1 hw.1.1
  have K33 : ∀ wB : MW, TG w wB → wB.1 87 8 = w.1 87 8 → q_Rd_readGuarded_33 B G P S a (w.1 108 1) wB Q := fun wB tB oB => by
    have bB := bd_108_1 tB.1.1.1
    refine Eq.mpr (q_Rd_readGuarded_33.eq_1 _ _ _ _ _ _ _ _) ⟨tB.1.1.2.2.1, hB wB _ tB.1 (congrArg Int32.toInt oB) (fun f wA tf => ?_)⟩
    have oA : wA.1 87 8 = w.1 87 8 := tf.2.1.trans oB
    have one : q_Rd_readGuarded_94 B G P S a (w.1 108 1) (wB.1 108 1) f (-1) wA Q := x_g94 hw tB tf (TG.refl tf.1.1) oA ha b1.1 b1.2 bB.1 bB.2 (Int.le_refl _) (by decide) (by decide) (fun _ => Or.inl i_m1) hQ
    have two : ∀ w8 : MW, TkS wA w8 → B w8 (fun r9 w9 => (q_Rd_readGuarded_94 B G P S a (w.1 108 1) (wB.1 108 1) f r9 w9 Q)) := fun w8 t8 => hB w8 _ (t8.tg tf.1.1).1 (congrArg Int32.toInt (t8.ge.2.trans oA)) (fun s w9 t9 => by
      have t1 := TG.tr tf.1.1 (t8.tg tf.1.1) t9.1
      refine x_g94 hw tB tf t1 (t9.2.1.trans (t8.ge.2.trans oA)) ha b1.1 b1.2 bB.1 bB.2 (Int.le_refl _) (by have := t9.2.2.1.1; omega) t9.2.2.1.2 (fun c => Or.inr ?_) hQ
      have p := t9.2.2.2 c
      have q := t9.1.2.2 c
      have T := (q.2.2.2 s.toInt p.1 (by omega)).2.2.1
      have e := t8.nd
      exact ⟨by omega, p.2.1, p.2.2.1, by omega, ⟨T.1, T.2.1⟩, T.2.2.1, T.2.2.2⟩)
    have K71 : q_Rd_readGuarded_71 B G P S a (w.1 108 1) (wB.1 108 1) f wA Q := Eq.mpr (q_Rd_readGuarded_71.eq_1 _ _ _ _ _ _ _ _ _ _) ⟨fun _ => k_take tf.1.1.1 (fun w8 t8 => two w8 t8), fun _ => k_take tf.1.1.1 (fun w8 t8 => two w8 t8)⟩
    exact ⟨fun _ => K71, fun _ => ⟨fun _ => one, fun _ => ⟨fun _ => one, fun _ => K71⟩⟩⟩
  exact Eq.mpr (pb_Rd_readGuarded.eq_1 _ _ _ _ _ _ _) ⟨hw.1.2.2.1, fun _ => k_lev hw.1 (by decide) (by decide) (fun r3 w3 g3 => K33 w3 (g3.1.tg hw) g3.2), fun _ => k_lev hw.1 (by decide) (by decide) (fun r8 w8 g8 => k_demand g8.1.1 (fun w9 t9 => K33 w9 (TG.tr hw (g8.1.tg hw) (t9.tg (g8.1.tg hw).1)) (t9.ge.2.trans g8.2)))⟩
theorem k_st0 {w : MW} {v : Int32} (h : RW w) : GB w (sI w 108 0 v) := by
  have hF : FR [(108, some 0)] w (sI w 108 0 v) := FR.I (FR.refl _ w) rfl
  have R : RW (sI w 108 0 v) := h.fr (wbd_108_0 h.1) hF h.2.2.2 rfl
  exact ⟨R, (FR.refl lcr w).tr hF rfl, WM.fr hF rfl, fun c => ⟨c, Int.le_refl _, fun j _ _ => sn_off hF rfl j, fun m a b => by
    have e : ndC (sI w 108 0 v) = ndC w := rfl
    rw [e] at b
    omega⟩⟩
theorem x_rstat {B S : MW → (Int32 → MW → Prop) → Prop} {G : MW → Int32 → (Int32 → MW → Prop) → Prop} {P : MW → (Int32 → MW → Prop) → Prop} {w : MW} {Q : Int32 → MW → Prop} (hw : RN w) (hG : ∀ a : Int32, (a.toInt = 17 ∨ a.toInt = 19 ∨ a.toInt = 20) → RcS 11 26 (w.1 87 8).toInt (fun w Q => G w a Q)) (hP : RcS 11 26 (w.1 87 8).toInt P) (hQ : ∀ r w', StO 11 26 w r w' → Q r w') : pb_Rd_readStatement B G P S w Q := by
  have F : p_Rd_fail w (fun w2 => (Q 0 w2)) := k_fail hw.1 (fun w' t c => hQ 0 w' (StO.bad (t.tg hw) t.ge.2 (by decide) (by decide) c))
  rw [pb_Rd_readStatement.eq_1]
  refine ⟨fun _ => F, fun _ => ⟨fun _ => F, fun c11 => ⟨fun c26 => ⟨fun _ => F, fun c15 => ⟨fun _ => F, fun c18 => ⟨fun c21 => ⟨hw.1.2.2.1, ?_⟩, fun _ => F⟩⟩⟩, fun _ => F⟩⟩⟩
  have z := k_st0 (v := (w.1 108 0) + (1 : Int32)) hw.1
  have o1 : (sI w 108 0 ((w.1 108 0) + (1 : Int32))).1 87 8 = w.1 87 8 := rfl
  generalize (sI w 108 0 ((w.1 108 0) + (1 : Int32))) = w1 at *
  have T1 := z.tg hw
  refine k_next z.1 (fun w12 t12 => ?_)
  have T := TG.tr hw T1 (t12.tg T1.1)
  have o : w12.1 87 8 = w.1 87 8 := t12.ge.2.trans o1
  have oi : (w12.1 87 8).toInt = (w.1 87 8).toInt := congrArg Int32.toInt o
  have hQ' : ∀ r w', StO 11 26 w12 r w' → Q r w' := fun r w' h => hQ r w' (StO.seq hw T o h)
  generalize (w.1 87 3) = kd at *
  exact ⟨fun k => k_change T.1 (Or.inl k) hQ', fun _ => ⟨fun k => k_pause T.1 (Or.inl k) hQ', fun _ => ⟨fun k => k_pause T.1 (Or.inr k) hQ', fun _ => ⟨fun k => k_change T.1 (Or.inr k) hQ', fun _ => ⟨fun k => absurd k c15, fun _ => ⟨fun k => hP w12 _ T.1 oi hQ', fun _ => ⟨fun k => hG kd (Or.inl k) w12 _ T.1 oi hQ', fun _ => ⟨fun k => absurd k c18, fun _ => ⟨fun k => hG kd (Or.inr (Or.inl k)) w12 _ T.1 oi hQ', fun _ => ⟨fun k => hG kd (Or.inr (Or.inr k)) w12 _ T.1 oi hQ', fun _ => k_short T.1 (by omega) (by omega) hQ'⟩⟩⟩⟩⟩⟩⟩⟩⟩⟩
theorem rs_all (d : Nat) : (∀ o : Int, 0 ≤ o → (3 * (20 - o)).toNat < d → RcS 35 35 o (pn_Rd_readBlock d)) ∧ (∀ (o : Int) (a : Int32), (a.toInt = 17 ∨ a.toInt = 19 ∨ a.toInt = 20) → 0 ≤ o → (3 * (20 - o) + 1).toNat < d → RcS 11 26 o (fun w Q => pn_Rd_readGuarded d w a Q)) ∧ (∀ o : Int, 0 ≤ o → (3 * (20 - o) + 1).toNat < d → RcS 11 26 o (pn_Rd_readPar d)) ∧ (∀ o : Int, 0 ≤ o → (3 * (20 - o) + 2).toNat < d → RcS 11 26 o (pn_Rd_readStatement d)) := by
  induction d with
  | zero => exact ⟨fun _ _ h => by omega, fun _ _ _ _ h => by omega, fun _ _ h => by omega, fun _ _ h => by omega⟩
  | succ d ih =>
    refine ⟨fun o o0 hm w Q h ho hQ => ?_, fun o a ha o0 hm w Q h ho hQ => ?_, fun o o0 hm w Q h ho hQ => ?_, fun o o0 hm w Q h ho hQ => ?_⟩
    · rw [pe_Rd_readBlock]
      have b8 := bd_87_8 h.1.1
      exact x_rblock h (fun c => ih.2.2.2 _ (by omega) (by omega)) hQ
    · show pn_Rd_readGuarded (d + 1) w a Q
      rw [pe_Rd_readGuarded]
      have b8 := bd_87_8 h.1.1
      exact x_rguard h ha (ih.1 _ (by omega) (by omega)) hQ
    · rw [pe_Rd_readPar]
      have b8 := bd_87_8 h.1.1
      exact x_rpar h (ih.1 _ (by omega) (by omega)) hQ
    · rw [pe_Rd_readStatement]
      have b8 := bd_87_8 h.1.1
      exact x_rstat h (fun a ha => ih.2.1 _ a ha (by omega) (by omega)) (ih.2.2.1 _ (by omega) (by omega)) hQ
theorem k_block {w : MW} {Q : Int32 → MW → Prop} (h : RN w) (hQ : ∀ r w', StO 35 35 w r w' → Q r w') : p_Rd_readBlock w Q := (rs_all 400).1 (w.1 87 8).toInt (bd_87_8 h.1.1).1 (by have := bd_87_8 h.1.1; omega) w Q h rfl hQ
theorem k_stat {w : MW} {Q : Int32 → MW → Prop} (h : RN w) (hQ : ∀ r w', StO 11 26 w r w' → Q r w') : p_Rd_readStatement w Q := (rs_all 400).2.2.2 (w.1 87 8).toInt (bd_87_8 h.1.1).1 (by have := bd_87_8 h.1.1; omega) w Q h rfl hQ
