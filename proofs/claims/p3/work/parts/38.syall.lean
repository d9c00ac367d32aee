theorem mc_e {σ : Nat → Nat} {b : Bool} {x y : MI × (Nat → Op)} {pc : Nat} (hx : OpE σ (x.2 pc)) (hy : OpE σ (y.2 pc)) : OpE σ ((bif b then x else y).2 pc) := by cases b <;> assumption
set_option maxRecDepth 100000 in
theorem mc_sy {σ : Nat → Nat} (hσ : Sy σ) (μ pc : Nat) : OpE σ (cd μ pc) := mc_e oe_bad (mc_e (mc_e (mc_e (mc_e (mc_e (mc_e (mc_e (mc_e (ox_Bh_feed hσ pc) (ox_Bh_end hσ pc)) (mc_e (ox_Bh_takePlant hσ pc) (mc_e (ox_Bh_takeRows hσ pc) (ox_Bh_takeProgram hσ pc)))) (mc_e (mc_e (ox_Bh_fill hσ pc) (ox_Bh_isLiquid hσ pc)) (mc_e (ox_Bh_may hσ pc) (mc_e (ox_Bh_need hσ pc) (ox_Bh_lasts hσ pc))))) (mc_e (mc_e (mc_e (ox_Bh_sense hσ pc) (ox_Bh_watch hσ pc)) (mc_e (ox_Bh_signal hσ pc) (mc_e (ox_Bh_bind hσ pc) (ox_Bh_act hσ pc)))) (mc_e (mc_e (ox_Bh_start hσ pc) (mc_e (ox_Bh_tick hσ pc) (ox_Bh_senseAll hσ pc))) (mc_e (ox_Bh_sensed hσ pc) (mc_e (ox_Bh_answer hσ pc) (ox_Bh_hold hσ pc)))))) (mc_e (mc_e (mc_e (mc_e (ox_Bh_stop hσ pc) (ox_Bh_pass hσ pc)) (mc_e (ox_Bh_isPerson hσ pc) (mc_e (ox_Bh_reset hσ pc) (ox_Bh_bars hσ pc)))) (mc_e (mc_e (ox_Bh_row hσ pc) (mc_e (ox_Bh_state hσ pc) (ox_Bh_value hσ pc))) (mc_e (ox_Bh_still hσ pc) (mc_e (ox_Bh_alarm hσ pc) (ox_Bh_way hσ pc))))) (mc_e (mc_e (mc_e (ox_Bh_space hσ pc) (ox_Bh_danger hσ pc)) (mc_e (ox_Bh_write hσ pc) (mc_e (ox_Bh_second hσ pc) (ox_Mo_feed hσ pc)))) (mc_e (mc_e (ox_Mo_end hσ pc) (mc_e (ox_Mo_here hσ pc) (ox_Mo_over hσ pc))) (mc_e (ox_Mo_number hσ pc) (mc_e (ox_Mo_planLine hσ pc) (ox_Mo_room hσ pc))))))) (mc_e (mc_e (mc_e (mc_e (mc_e (ox_Mo_isNew hσ pc) (ox_Mo_readPlant hσ pc)) (mc_e (ox_Mo_build hσ pc) (mc_e (ox_Mo_letter hσ pc) (ox_Mo_say hσ pc)))) (mc_e (mc_e (ox_Mo_sayNumber hσ pc) (ox_Mo_write hσ pc)) (mc_e (ox_Mo_isThing hσ pc) (mc_e (ox_Mo_isTank hσ pc) (ox_Mo_isValve hσ pc))))) (mc_e (mc_e (mc_e (ox_Mo_isPipe hσ pc) (ox_Mo_holdsLiquid hσ pc)) (mc_e (ox_Mo_liquidIn hσ pc) (mc_e (ox_Mo_litresIn hσ pc) (ox_Mo_forget hσ pc)))) (mc_e (mc_e (ox_Mo_note hσ pc) (mc_e (ox_Mo_level hσ pc) (ox_Mo_mayCome hσ pc))) (mc_e (ox_Mo_passes hσ pc) (mc_e (ox_Mo_least hσ pc) (ox_Mo_join hσ pc)))))) (mc_e (mc_e (mc_e (mc_e (ox_Mo_flood hσ pc) (ox_Mo_mayMeet hσ pc)) (mc_e (ox_Mo_isCalm hσ pc) (mc_e (ox_Mo_isSafe hσ pc) (ox_Mo_look hσ pc)))) (mc_e (mc_e (ox_Mo_carry hσ pc) (mc_e (ox_Mo_danger hσ pc) (ox_Mo_held hσ pc))) (mc_e (ox_Mo_needOf hσ pc) (mc_e (ox_Mo_measure hσ pc) (ox_Mo_find hσ pc))))) (mc_e (mc_e (mc_e (ox_Mo_openWay hσ pc) (ox_Mo_open hσ pc)) (mc_e (ox_Mo_close hσ pc) (mc_e (ox_Mo_closeAll hσ pc) (ox_Mo_isOnWay hσ pc)))) (mc_e (mc_e (ox_Mo_come hσ pc) (mc_e (ox_Mo_flow hσ pc) (ox_Mo_way hσ pc))) (mc_e (ox_Mo_space hσ pc) (mc_e (ox_Mo_fill hσ pc) (ox_Mo_may hσ pc)))))))) (mc_e (mc_e (mc_e (mc_e (mc_e (mc_e (ox_Mo_need hσ pc) (ox_Mo_lasts hσ pc)) (mc_e (ox_Mo_bind hσ pc) (mc_e (ox_Mo_perform hσ pc) (ox_Mo_raise hσ pc)))) (mc_e (mc_e (ox_Mo_act hσ pc) (ox_Mo_isRole hσ pc)) (mc_e (ox_Mo_sense hσ pc) (mc_e (ox_Mo_watch hσ pc) (ox_Mo_signal hσ pc))))) (mc_e (mc_e (mc_e (ox_Mo_value hσ pc) (ox_Mo_sensed hσ pc)) (mc_e (ox_Mo_senseAll hσ pc) (mc_e (ox_Mo_pass hσ pc) (ox_Mo_reset hσ pc)))) (mc_e (mc_e (ox_Mo_bars hσ pc) (mc_e (ox_Mo_row hσ pc) (ox_Mo_kind hσ pc))) (mc_e (ox_Mo_kids hσ pc) (mc_e (ox_Mo_lay hσ pc) (ox_Mo_hang hσ pc)))))) (mc_e (mc_e (mc_e (mc_e (ox_Mo_start hσ pc) (ox_Mo_reckon hσ pc)) (mc_e (ox_Mo_isBad hσ pc) (mc_e (ox_Mo_begin hσ pc) (ox_Mo_go hσ pc)))) (mc_e (mc_e (ox_Mo_goUntil hσ pc) (mc_e (ox_Mo_goPar hσ pc) (ox_Mo_goRamp hσ pc))) (mc_e (ox_Mo_limits hσ pc) (mc_e (ox_Mo_walk hσ pc) (ox_Mo_tick hσ pc))))) (mc_e (mc_e (mc_e (ox_Mo_stillAt hσ pc) (ox_Mo_answer hσ pc)) (mc_e (ox_Mo_hold hσ pc) (mc_e (ox_Mo_stop hσ pc) (ox_Mo_state hσ pc)))) (mc_e (mc_e (ox_Mo_still hσ pc) (mc_e (ox_Mo_alarm hσ pc) (ox_Mo_second hσ pc))) (mc_e (ox_Ac_isAct hσ pc) (mc_e (ox_Ac_tie hσ pc) (ox_Ac_isBound hσ pc))))))) (mc_e (mc_e (mc_e (mc_e (mc_e (ox_Ac_perform hσ pc) (ox_Ac_openWay hσ pc)) (mc_e (ox_Ac_closeWay hσ pc) (mc_e (ox_Ac_setPosition hσ pc) (ox_Ac_cleanSpace hσ pc)))) (mc_e (mc_e (ox_Ac_drainSpace hσ pc) (ox_Al_add hσ pc)) (mc_e (ox_Al_get hσ pc) (mc_e (ox_Pl_read hσ pc) (ox_Pl_readLine hσ pc))))) (mc_e (mc_e (mc_e (ox_Pl_readPipe hσ pc) (ox_Pl_takes hσ pc)) (mc_e (ox_Pl_endsLine hσ pc) (mc_e (ox_Pl_takesPipeEnd hσ pc) (ox_Pl_takesNumber hσ pc)))) (mc_e (mc_e (ox_Pl_addThing hσ pc) (mc_e (ox_Pl_addPipe hσ pc) (ox_Pl_joins hσ pc))) (mc_e (ox_Pl_writeTo hσ pc) (mc_e (ox_Pl_put hσ pc) (ox_Pl_putPipeEnd hσ pc)))))) (mc_e (mc_e (mc_e (mc_e (ox_Pl_putNumber hσ pc) (ox_Pr_clear hσ pc)) (mc_e (ox_Pr_find hσ pc) (mc_e (ox_Pr_addName hσ pc) (ox_Pr_hasValue hσ pc)))) (mc_e (mc_e (ox_Pr_isSignal hσ pc) (mc_e (ox_Pr_isSensed hσ pc) (ox_Pr_clearValues hσ pc))) (mc_e (ox_Pr_firstBlock hσ pc) (mc_e (ox_Rd_read hσ pc) (ox_Rd_fail hσ pc))))) (mc_e (mc_e (mc_e (ox_Rd_nextWord hσ pc) (ox_Rd_refuseByte hσ pc)) (mc_e (ox_Rd_isMark hσ pc) (mc_e (ox_Rd_scanLetters hσ pc) (ox_Rd_digitOf hσ pc)))) (mc_e (mc_e (ox_Rd_scanNumber hσ pc) (mc_e (ox_Rd_take hσ pc) (ox_Rd_makeNode hσ pc))) (mc_e (ox_Rd_takeNewName hσ pc) (mc_e (ox_Rd_takeUnit hσ pc) (ox_Rd_takeName hσ pc))))))))) (mc_e (mc_e (mc_e (mc_e (mc_e (mc_e (mc_e (ox_Rd_readBlock hσ pc) (ox_Rd_readStatement hσ pc)) (mc_e (ox_Rd_readChange hσ pc) (mc_e (ox_Rd_demand hσ pc) (ox_Rd_giveRange hσ pc)))) (mc_e (mc_e (ox_Rd_readPause hσ pc) (ox_Rd_readPar hσ pc)) (mc_e (ox_Rd_readGuarded hσ pc) (mc_e (ox_Rd_readShort hσ pc) (ox_Rd_readLevel hσ pc))))) (mc_e (mc_e (mc_e (ox_Rd_levelOf hσ pc) (ox_Rd_join hσ pc)) (mc_e (ox_Rd_readFactor hσ pc) (mc_e (ox_Ro_has hσ pc) (ox_Ro_isOn hσ pc)))) (mc_e (mc_e (ox_Ro_countSecond hσ pc) (mc_e (ox_Ro_barring hσ pc) (ox_Ro_read hσ pc))) (mc_e (ox_Ro_nextWord hσ pc) (mc_e (ox_Ro_isMark hσ pc) (ox_Ro_is hσ pc)))))) (mc_e (mc_e (mc_e (mc_e (ox_Ro_takes hσ pc) (ox_Ro_fail hσ pc)) (mc_e (ox_Ro_numberBehind hσ pc) (mc_e (ox_Ro_readRow hσ pc) (ox_Ro_readActs hσ pc)))) (mc_e (mc_e (ox_Ro_readOr hσ pc) (mc_e (ox_Ro_readAnd hσ pc) (ox_Ro_readPart hσ pc))) (mc_e (ox_Ro_put hσ pc) (mc_e (ox_Ru_isAlive hσ pc) (ox_Ru_take hσ pc))))) (mc_e (mc_e (mc_e (ox_Ru_expandAll hσ pc) (ox_Ru_begin hσ pc)) (mc_e (ox_Ru_enter hσ pc) (mc_e (ox_Ru_walk hσ pc) (ox_Ru_isOver hσ pc)))) (mc_e (mc_e (ox_Ru_fault hσ pc) (mc_e (ox_Ru_lookAtLimits hσ pc) (ox_Ru_lookAtLimit hσ pc))) (mc_e (ox_Ru_choose hσ pc) (mc_e (ox_Ru_mayBegin hσ pc) (ox_Ru_goOn hσ pc))))))) (mc_e (mc_e (mc_e (mc_e (mc_e (ox_Ru_goesPast hσ pc) (ox_Ru_endsAllSides hσ pc)) (mc_e (ox_Ru_endsRounds hσ pc) (mc_e (ox_Ru_beginPlain hσ pc) (ox_Ru_stand hσ pc)))) (mc_e (mc_e (ox_Ru_goInside hσ pc) (ox_Ru_beginPar hσ pc)) (mc_e (ox_Ru_beginReckoned hσ pc) (mc_e (ox_Ru_setValue hσ pc) (ox_Ru_beginRamp hσ pc))))) (mc_e (mc_e (mc_e (ox_Ru_lookAgain hσ pc) (ox_Ru_rampOn hσ pc)) (mc_e (ox_Ru_reckon hσ pc) (mc_e (ox_Ru_apply hσ pc) (ox_Ru_seek hσ pc)))) (mc_e (mc_e (ox_Ru_standingNode hσ pc) (mc_e (ox_Ru_giveAnswer hσ pc) (ox_Sf_isSafe hσ pc))) (mc_e (ox_Sf_otherPasses hσ pc) (mc_e (ox_Sf_findRivals hσ pc) (ox_Sf_meet hσ pc)))))) (mc_e (mc_e (mc_e (mc_e (ox_Sf_link hσ pc) (ox_St_renew hσ pc)) (mc_e (ox_St_isTank hσ pc) (mc_e (ox_St_isValve hσ pc) (ox_St_isPipe hσ pc)))) (mc_e (mc_e (ox_St_isHolder hσ pc) (mc_e (ox_St_mayMeet hσ pc) (ox_St_mayCome hσ pc))) (mc_e (ox_St_levelOf hσ pc) (mc_e (ox_St_heldLevel hσ pc) (ox_St_cleanSpace hσ pc))))) (mc_e (mc_e (mc_e (ox_St_forgetCleanings hσ pc) (ox_St_arrive hσ pc)) (mc_e (ox_St_leave hσ pc) (mc_e (ox_St_emptyCells hσ pc) (ox_St_leavingCell hσ pc)))) (mc_e (mc_e (ox_St_isFull hσ pc) (mc_e (ox_St_wouldLeave hσ pc) (ox_St_push hσ pc))) (mc_e (ox_Tp_hasRoom hσ pc) (mc_e (ox_Tp_put hσ pc) (ox_Tp_at hσ pc)))))))) (mc_e (mc_e (mc_e (mc_e (mc_e (mc_e (ox_Tp_isDigit hσ pc) (ox_Tp_isLetter hσ pc)) (mc_e (ox_Tp_isBlank hσ pc) (mc_e (ox_Tp_isText hσ pc) (ox_Wa_forget hσ pc)))) (mc_e (mc_e (ox_Wa_get hσ pc) (ox_Wa_indexOf hσ pc)) (mc_e (ox_Wa_goesOver hσ pc) (mc_e (ox_Wa_hasSpace hσ pc) (ox_Wa_find hσ pc))))) (mc_e (mc_e (mc_e (ox_Wa_cheapestEntry hσ pc) (ox_Wa_onward hσ pc)) (mc_e (ox_Wa_openFound hσ pc) (mc_e (ox_Wa_undoOpening hσ pc) (ox_Wa_closeOne hσ pc)))) (mc_e (mc_e (ox_Wa_closeAll hσ pc) (mc_e (ox_Wa_remove hσ pc) (ox_Wa_move hσ pc))) (mc_e (ox_Wa_movesLitre hσ pc) (mc_e (ox_Wa_goesForth hσ pc) (ox_Wa_addSources hσ pc)))))) (mc_e (mc_e (mc_e (mc_e (ox_Mr_unit hσ pc) (ox_Mr_isSign hσ pc)) (mc_e (ox_Mr_cut hσ pc) (mc_e (ox_Mr_at hσ pc) (ox_Mr_wide hσ pc)))) (mc_e (mc_e (ox_Mr_is hσ pc) (mc_e (ox_Mr_isOne hσ pc) (ox_Mr_number hσ pc))) (mc_e (ox_Mr_act0 hσ pc) (mc_e (ox_Mr_conditionWord hσ pc) (ox_Mr_node hσ pc))))) (mc_e (mc_e (mc_e (ox_Mr_or hσ pc) (ox_Mr_and hσ pc)) (mc_e (ox_Mr_part hσ pc) (mc_e (ox_Mr_readRow hσ pc) (ox_Mr_read hσ pc)))) (mc_e (mc_e (ox_Mr_value hσ pc) (mc_e (ox_Mr_isOn hσ pc) (ox_Mr_tick hσ pc))) (mc_e (ox_Mr_act1 hσ pc) (mc_e (ox_Mr_hasAct hσ pc) (ox_Mr_isRow hσ pc))))))) (mc_e (mc_e (mc_e (mc_e (mc_e (ox_Mr_pass hσ pc) (ox_Mr_reset hσ pc)) (mc_e (ox_Tx_unit hσ pc) (mc_e (ox_Tx_at hσ pc) (ox_Tx_isDigit hσ pc)))) (mc_e (mc_e (ox_Tx_isLetter hσ pc) (mc_e (ox_Tx_is hσ pc) (ox_Tx_meaning hσ pc))) (mc_e (ox_Tx_go hσ pc) (mc_e (ox_Tx_digits hσ pc) (ox_Tx_bad hσ pc))))) (mc_e (mc_e (mc_e (ox_Tx_over hσ pc) (ox_Tx_isWord hσ pc)) (mc_e (ox_Tx_unitWord hσ pc) (mc_e (ox_Tx_base hσ pc) (ox_Tx_node0 hσ pc)))) (mc_e (mc_e (ox_Tx_push hσ pc) (mc_e (ox_Tx_unitIn hσ pc) (ox_Tx_two hσ pc))) (mc_e (ox_Tx_sum hσ pc) (mc_e (ox_Tx_product hσ pc) (ox_Tx_factor hσ pc)))))) (mc_e (mc_e (mc_e (mc_e (ox_Tx_numberNode hσ pc) (ox_Tx_test hσ pc)) (mc_e (ox_Tx_nameOf hσ pc) (mc_e (ox_Tx_tell hσ pc) (ox_Tx_known hσ pc)))) (mc_e (mc_e (ox_Tx_block hσ pc) (mc_e (ox_Tx_sumOf hσ pc) (ox_Tx_pushed hσ pc))) (mc_e (ox_Tx_statement hσ pc) (mc_e (ox_Tx_declaration hσ pc) (ox_Tx_program hσ pc))))) (mc_e (mc_e (mc_e (ox_Tx_isSmall hσ pc) (ox_Tx_read hσ pc)) (mc_e (ox_Tx_node1 hσ pc) (mc_e (ox_Tx_kid hσ pc) (ox_Ma_min hσ pc)))) (mc_e (mc_e (ox_Ma_max hσ pc) (mc_e (ox_Ma_floorDiv hσ pc) (ox_Lo_numberOfTrailingZeros hσ pc))) (mc_e (ox_In_numberOfTrailingZeros hσ pc) (mc_e (ox_Ar_fill0 hσ pc) (ox_Ar_fill1 hσ pc))))))))))
theorem mk_sy (σ : Nat → Nat) (n : Nat) (as : List Value) : mkL n (as.map (rv σ)) = Ls σ (mkL n as) := by
  have h : ∀ as : List Value, mkS (as.map (rv σ)) = Ls σ (mkS as) := by
    intro as
    induction as with
    | nil => rfl
    | cons v t ih =>
      show (if (rv σ v).category = 2 then some (rv σ v) :: none :: mkS (t.map (rv σ)) else some (rv σ v) :: mkS (t.map (rv σ))) = Ls σ (if v.category = 2 then some v :: none :: mkS t else some v :: mkS t)
      rw [rv_cat, ih]
      by_cases hc : v.category = 2
      · rw [if_pos hc, if_pos hc]; rfl
      · rw [if_neg hc, if_neg hc]; rfl
  unfold mkL
  rw [h, sl_len, Ls, Ls, List.map_append, List.map_replicate]; rfl
theorem mi_sy {σ : Nat → Nat} (hσ : Sy σ) : ∀ (f d μ pc : Nat) (L : Lo) (S : List Value) (w : MW) (v : Option Value) (w' : MW), mi mt cd f d μ pc L S w = some (v, w') → mi mt cd f d μ pc (Ls σ L) (S.map (rv σ)) (sw σ w) = some (v.map (rv σ), sw σ w') := by
  intro f
  induction f with
  | zero => intro d μ pc L S w v w' h; cases h
  | succ f ih =>
    intro d μ pc L S w v w' h
    unfold mi at h
    split at h
    · cases h
    · next q hq =>
      have h2 := mc_sy hσ μ pc L S w _ hq
      unfold mi
      rw [h2]
      exact ih _ _ _ _ _ _ _ _ h
    · next q hq =>
      have h2 := mc_sy hσ μ pc L S w _ hq
      split at h
      · cases h
      · next d' =>
        split at h
        · next hl =>
          split at h
          · cases h
          · next r hr =>
            obtain ⟨rv1, rw1⟩ := r
            have h3 := ih _ _ _ _ _ _ _ _ hr
            rw [← mk_sy] at h3
            have h4 := ih _ _ _ _ _ _ _ _ h
            unfold mi
            rw [h2]
            have hl2 : (lg_sl (q.2.1.map (rv σ))).length ≤ (mt q.1).2.2.1 := by rw [sl_len]; exact hl
            simp only [os, if_pos hl2]
            rw [show (List.map (rv σ) [] : List Value) = [] from rfl] at h3
            simp only [h3]
            rw [List.map_append] at h4
            have e : (Option.map (rv σ) rv1).toList = rv1.toList.map (rv σ) := by cases rv1 <;> rfl
            rw [e]
            exact h4
        · cases h
    · next v0 hq =>
      have h2 := mc_sy hσ μ pc L S w _ hq
      simp only [Option.some.injEq, Prod.mk.injEq] at h
      obtain ⟨rfl, rfl⟩ := h
      unfold mi
      rw [h2]
      rfl
theorem sw_sw {σ : Nat → Nat} (hσ : Sy σ) (w : MW) : sw σ (sw σ w) = w := by
  show ((fun k => w.1 (σ (σ k))), (fun k => w.2.1 (σ (σ k))), fun k j => ((w.2.2 (σ (σ k)) j).map σ).map σ) = w
  obtain ⟨a, b, c⟩ := w
  simp only [hσ.1, Option.map_map]
  have e : (σ ∘ σ) = id := by funext k; exact hσ.1 k
  simp only [e, Option.map_id, id]
/-- a contract holds for the twin cells too -/
theorem Tc.sy {σ : Nat → Nat} (hσ : Sy σ) {d μ : Nat} {as : List Value} {w : MW} {Q : Option Value → MW → Prop} (h : Tc d μ as w Q) : Tc d μ (as.map (rv σ)) (sw σ w) (fun v w1 => ∃ v0, v = Option.map (rv σ) v0 ∧ Q v0 (sw σ w1)) := by
  obtain ⟨v, w', ⟨f, hf⟩, hQ⟩ := h
  refine ⟨_, _, ⟨f, ?_⟩, v, rfl, by rw [sw_sw hσ]; exact hQ⟩
  have := mi_sy hσ _ _ _ _ _ _ _ _ _ hf
  rw [← mk_sy] at this
  exact this
