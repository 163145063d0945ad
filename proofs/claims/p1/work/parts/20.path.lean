/-! the walks of these methods, by program out of the bytecode -/
set_option maxHeartbeats 4000000 in
set_option maxRecDepth 100000 in
theorem m_PA_isNumber (l : Launch) {out : Int32} (v0 : Int64) (h : f_PA_isNumber v0 = out) : Met l y_PA_isNumber w_PA_isNumber rm_PA_isNumber (fun v _ => v = [.long v0].toArray) (PZ out) 0 0 (fun _ => False) := by
  refine Met.ofW (cc := b_PA_isNumber) (maxL := 2) (ret := (some .boolean)) (by decide) rfl ?_
  intro p e s m av below meth c s₁ B hml hv
  subst hv
  have hX : CallFix p m c b_PA_isNumber 2 s _ w_PA_isNumber "NibbleTrie$Path" := ⟨B.exec, B.bytes, hml, findClass_of_methodNamed B.named, atoms_spec (ws := w_PA_isNumber) B.pre⟩
  have hx := hX.1
  have hb := hX.2.1
  have hown := hX.2.2.2.1
  have hts := hX.2.2.2.2
  have hr := B.returns
  have hlk := B.notSynchronized
  have hl := lv_entry ([.long v0]) (n := 2) (Nat.le_of_ble_eq_true rfl)
  rw [lg_entry_eq]
  generalize (lg_sl ([.long v0]) ++ List.replicate (2 - (lg_sl ([.long v0])).length) Slot.unset).toArray = ls at hl ⊢
  have hl : lv_has ls 2 [(0, .long v0)] := hl
  unfold f_PA_isNumber at h
  refine lv_lload_n hx hb d_PA_isNumber_0 rfl (lv_at hl 0 rfl) ?_
  refine lv_lconst (v := 1) hx hb d_PA_isNumber_1 (by decide) ?_
  refine W.lcmp hx hb d_PA_isNumber_2 ?_
  refine lv_if_eq (tgt := 70) hx hb d_PA_isNumber_3 (by decide) (fun hc => ?_) (fun hc => ?_)
  · replace h := ifP h hc
    refine lv_iconst (v := 1) hx hb d_PA_isNumber_70 (by decide) ?_
    refine lv_goto (tgt := 75) hx hb d_PA_isNumber_71 (by decide) ?_
    subst h
    exact p_zret hX hr hlk (Or.inr rfl) d_PA_isNumber_75
  · replace h := ifN h hc
    refine lv_lload_n hx hb d_PA_isNumber_6 rfl (lv_at hl 0 rfl) ?_
    refine lv_ldc2 (v := 16) hx hb hown (hts _ (List.mem_cons_of_mem _ t_143)) d_PA_isNumber_7 ?_
    refine W.lcmp hx hb d_PA_isNumber_10 ?_
    refine lv_if_lt (tgt := 22) hx hb d_PA_isNumber_11 (by decide) (fun hc => ?_) (fun hc => ?_)
    · replace h := ifP h hc
      refine lv_lload_n hx hb d_PA_isNumber_22 rfl (lv_at hl 0 rfl) ?_
      refine lv_ldc2 (v := 256) hx hb hown (hts _ (List.mem_cons_of_mem _ t_145)) d_PA_isNumber_23 ?_
      refine W.lcmp hx hb d_PA_isNumber_26 ?_
      refine lv_if_lt (tgt := 38) hx hb d_PA_isNumber_27 (by decide) (fun hc => ?_) (fun hc => ?_)
      · replace h := ifP h hc
        refine lv_lload_n hx hb d_PA_isNumber_38 rfl (lv_at hl 0 rfl) ?_
        refine lv_ldc2 (v := 4096) hx hb hown (hts _ (List.mem_cons_of_mem _ t_147)) d_PA_isNumber_39 ?_
        refine W.lcmp hx hb d_PA_isNumber_42 ?_
        refine lv_if_lt (tgt := 54) hx hb d_PA_isNumber_43 (by decide) (fun hc => ?_) (fun hc => ?_)
        · replace h := ifP h hc
          refine lv_lload_n hx hb d_PA_isNumber_54 rfl (lv_at hl 0 rfl) ?_
          refine lv_ldc2 (v := 65536) hx hb hown (hts _ (List.mem_cons_of_mem _ t_149)) d_PA_isNumber_55 ?_
          refine W.lcmp hx hb d_PA_isNumber_58 ?_
          refine lv_if_lt (tgt := 74) hx hb d_PA_isNumber_59 (by decide) (fun hc => ?_) (fun hc => ?_)
          · replace h := ifP h hc
            refine lv_iconst (v := 0) hx hb d_PA_isNumber_74 (by decide) ?_
            subst h
            exact p_zret hX hr hlk (Or.inl rfl) d_PA_isNumber_75
          · replace h := ifN h hc
            refine lv_lload_n hx hb d_PA_isNumber_62 rfl (lv_at hl 0 rfl) ?_
            refine lv_ldc2 (v := 131071) hx hb hown (hts _ (List.mem_cons_of_mem _ t_150)) d_PA_isNumber_63 ?_
            refine W.lcmp hx hb d_PA_isNumber_66 ?_
            refine lv_if_gt (tgt := 74) hx hb d_PA_isNumber_67 (by decide) (fun hc => ?_) (fun hc => ?_)
            · replace h := ifP h hc
              refine lv_iconst (v := 0) hx hb d_PA_isNumber_74 (by decide) ?_
              subst h
              exact p_zret hX hr hlk (Or.inl rfl) d_PA_isNumber_75
            · replace h := ifN h hc
              refine lv_iconst (v := 1) hx hb d_PA_isNumber_70 (by decide) ?_
              refine lv_goto (tgt := 75) hx hb d_PA_isNumber_71 (by decide) ?_
              subst h
              exact p_zret hX hr hlk (Or.inr rfl) d_PA_isNumber_75
        · replace h := ifN h hc
          refine lv_lload_n hx hb d_PA_isNumber_46 rfl (lv_at hl 0 rfl) ?_
          refine lv_ldc2 (v := 8191) hx hb hown (hts _ (List.mem_cons_of_mem _ t_148)) d_PA_isNumber_47 ?_
          refine W.lcmp hx hb d_PA_isNumber_50 ?_
          refine lv_if_le (tgt := 70) hx hb d_PA_isNumber_51 (by decide) (fun hc => ?_) (fun hc => ?_)
          · replace h := ifP h hc
            refine lv_iconst (v := 1) hx hb d_PA_isNumber_70 (by decide) ?_
            refine lv_goto (tgt := 75) hx hb d_PA_isNumber_71 (by decide) ?_
            subst h
            exact p_zret hX hr hlk (Or.inr rfl) d_PA_isNumber_75
          · replace h := ifN h hc
            refine lv_lload_n hx hb d_PA_isNumber_54 rfl (lv_at hl 0 rfl) ?_
            refine lv_ldc2 (v := 65536) hx hb hown (hts _ (List.mem_cons_of_mem _ t_149)) d_PA_isNumber_55 ?_
            refine W.lcmp hx hb d_PA_isNumber_58 ?_
            refine lv_if_lt (tgt := 74) hx hb d_PA_isNumber_59 (by decide) (fun hc => ?_) (fun hc => ?_)
            · replace h := ifP h hc
              refine lv_iconst (v := 0) hx hb d_PA_isNumber_74 (by decide) ?_
              subst h
              exact p_zret hX hr hlk (Or.inl rfl) d_PA_isNumber_75
            · replace h := ifN h hc
              refine lv_lload_n hx hb d_PA_isNumber_62 rfl (lv_at hl 0 rfl) ?_
              refine lv_ldc2 (v := 131071) hx hb hown (hts _ (List.mem_cons_of_mem _ t_150)) d_PA_isNumber_63 ?_
              refine W.lcmp hx hb d_PA_isNumber_66 ?_
              refine lv_if_gt (tgt := 74) hx hb d_PA_isNumber_67 (by decide) (fun hc => ?_) (fun hc => ?_)
              · replace h := ifP h hc
                refine lv_iconst (v := 0) hx hb d_PA_isNumber_74 (by decide) ?_
                subst h
                exact p_zret hX hr hlk (Or.inl rfl) d_PA_isNumber_75
              · replace h := ifN h hc
                refine lv_iconst (v := 1) hx hb d_PA_isNumber_70 (by decide) ?_
                refine lv_goto (tgt := 75) hx hb d_PA_isNumber_71 (by decide) ?_
                subst h
                exact p_zret hX hr hlk (Or.inr rfl) d_PA_isNumber_75
      · replace h := ifN h hc
        refine lv_lload_n hx hb d_PA_isNumber_30 rfl (lv_at hl 0 rfl) ?_
        refine lv_ldc2 (v := 511) hx hb hown (hts _ (List.mem_cons_of_mem _ t_146)) d_PA_isNumber_31 ?_
        refine W.lcmp hx hb d_PA_isNumber_34 ?_
        refine lv_if_le (tgt := 70) hx hb d_PA_isNumber_35 (by decide) (fun hc => ?_) (fun hc => ?_)
        · replace h := ifP h hc
          refine lv_iconst (v := 1) hx hb d_PA_isNumber_70 (by decide) ?_
          refine lv_goto (tgt := 75) hx hb d_PA_isNumber_71 (by decide) ?_
          subst h
          exact p_zret hX hr hlk (Or.inr rfl) d_PA_isNumber_75
        · replace h := ifN h hc
          refine lv_lload_n hx hb d_PA_isNumber_38 rfl (lv_at hl 0 rfl) ?_
          refine lv_ldc2 (v := 4096) hx hb hown (hts _ (List.mem_cons_of_mem _ t_147)) d_PA_isNumber_39 ?_
          refine W.lcmp hx hb d_PA_isNumber_42 ?_
          refine lv_if_lt (tgt := 54) hx hb d_PA_isNumber_43 (by decide) (fun hc => ?_) (fun hc => ?_)
          · replace h := ifP h hc
            refine lv_lload_n hx hb d_PA_isNumber_54 rfl (lv_at hl 0 rfl) ?_
            refine lv_ldc2 (v := 65536) hx hb hown (hts _ (List.mem_cons_of_mem _ t_149)) d_PA_isNumber_55 ?_
            refine W.lcmp hx hb d_PA_isNumber_58 ?_
            refine lv_if_lt (tgt := 74) hx hb d_PA_isNumber_59 (by decide) (fun hc => ?_) (fun hc => ?_)
            · replace h := ifP h hc
              refine lv_iconst (v := 0) hx hb d_PA_isNumber_74 (by decide) ?_
              subst h
              exact p_zret hX hr hlk (Or.inl rfl) d_PA_isNumber_75
            · replace h := ifN h hc
              refine lv_lload_n hx hb d_PA_isNumber_62 rfl (lv_at hl 0 rfl) ?_
              refine lv_ldc2 (v := 131071) hx hb hown (hts _ (List.mem_cons_of_mem _ t_150)) d_PA_isNumber_63 ?_
              refine W.lcmp hx hb d_PA_isNumber_66 ?_
              refine lv_if_gt (tgt := 74) hx hb d_PA_isNumber_67 (by decide) (fun hc => ?_) (fun hc => ?_)
              · replace h := ifP h hc
                refine lv_iconst (v := 0) hx hb d_PA_isNumber_74 (by decide) ?_
                subst h
                exact p_zret hX hr hlk (Or.inl rfl) d_PA_isNumber_75
              · replace h := ifN h hc
                refine lv_iconst (v := 1) hx hb d_PA_isNumber_70 (by decide) ?_
                refine lv_goto (tgt := 75) hx hb d_PA_isNumber_71 (by decide) ?_
                subst h
                exact p_zret hX hr hlk (Or.inr rfl) d_PA_isNumber_75
          · replace h := ifN h hc
            refine lv_lload_n hx hb d_PA_isNumber_46 rfl (lv_at hl 0 rfl) ?_
            refine lv_ldc2 (v := 8191) hx hb hown (hts _ (List.mem_cons_of_mem _ t_148)) d_PA_isNumber_47 ?_
            refine W.lcmp hx hb d_PA_isNumber_50 ?_
            refine lv_if_le (tgt := 70) hx hb d_PA_isNumber_51 (by decide) (fun hc => ?_) (fun hc => ?_)
            · replace h := ifP h hc
              refine lv_iconst (v := 1) hx hb d_PA_isNumber_70 (by decide) ?_
              refine lv_goto (tgt := 75) hx hb d_PA_isNumber_71 (by decide) ?_
              subst h
              exact p_zret hX hr hlk (Or.inr rfl) d_PA_isNumber_75
            · replace h := ifN h hc
              refine lv_lload_n hx hb d_PA_isNumber_54 rfl (lv_at hl 0 rfl) ?_
              refine lv_ldc2 (v := 65536) hx hb hown (hts _ (List.mem_cons_of_mem _ t_149)) d_PA_isNumber_55 ?_
              refine W.lcmp hx hb d_PA_isNumber_58 ?_
              refine lv_if_lt (tgt := 74) hx hb d_PA_isNumber_59 (by decide) (fun hc => ?_) (fun hc => ?_)
              · replace h := ifP h hc
                refine lv_iconst (v := 0) hx hb d_PA_isNumber_74 (by decide) ?_
                subst h
                exact p_zret hX hr hlk (Or.inl rfl) d_PA_isNumber_75
              · replace h := ifN h hc
                refine lv_lload_n hx hb d_PA_isNumber_62 rfl (lv_at hl 0 rfl) ?_
                refine lv_ldc2 (v := 131071) hx hb hown (hts _ (List.mem_cons_of_mem _ t_150)) d_PA_isNumber_63 ?_
                refine W.lcmp hx hb d_PA_isNumber_66 ?_
                refine lv_if_gt (tgt := 74) hx hb d_PA_isNumber_67 (by decide) (fun hc => ?_) (fun hc => ?_)
                · replace h := ifP h hc
                  refine lv_iconst (v := 0) hx hb d_PA_isNumber_74 (by decide) ?_
                  subst h
                  exact p_zret hX hr hlk (Or.inl rfl) d_PA_isNumber_75
                · replace h := ifN h hc
                  refine lv_iconst (v := 1) hx hb d_PA_isNumber_70 (by decide) ?_
                  refine lv_goto (tgt := 75) hx hb d_PA_isNumber_71 (by decide) ?_
                  subst h
                  exact p_zret hX hr hlk (Or.inr rfl) d_PA_isNumber_75
    · replace h := ifN h hc
      refine lv_lload_n hx hb d_PA_isNumber_14 rfl (lv_at hl 0 rfl) ?_
      refine lv_ldc2 (v := 31) hx hb hown (hts _ (List.mem_cons_of_mem _ t_144)) d_PA_isNumber_15 ?_
      refine W.lcmp hx hb d_PA_isNumber_18 ?_
      refine lv_if_le (tgt := 70) hx hb d_PA_isNumber_19 (by decide) (fun hc => ?_) (fun hc => ?_)
      · replace h := ifP h hc
        refine lv_iconst (v := 1) hx hb d_PA_isNumber_70 (by decide) ?_
        refine lv_goto (tgt := 75) hx hb d_PA_isNumber_71 (by decide) ?_
        subst h
        exact p_zret hX hr hlk (Or.inr rfl) d_PA_isNumber_75
      · replace h := ifN h hc
        refine lv_lload_n hx hb d_PA_isNumber_22 rfl (lv_at hl 0 rfl) ?_
        refine lv_ldc2 (v := 256) hx hb hown (hts _ (List.mem_cons_of_mem _ t_145)) d_PA_isNumber_23 ?_
        refine W.lcmp hx hb d_PA_isNumber_26 ?_
        refine lv_if_lt (tgt := 38) hx hb d_PA_isNumber_27 (by decide) (fun hc => ?_) (fun hc => ?_)
        · replace h := ifP h hc
          refine lv_lload_n hx hb d_PA_isNumber_38 rfl (lv_at hl 0 rfl) ?_
          refine lv_ldc2 (v := 4096) hx hb hown (hts _ (List.mem_cons_of_mem _ t_147)) d_PA_isNumber_39 ?_
          refine W.lcmp hx hb d_PA_isNumber_42 ?_
          refine lv_if_lt (tgt := 54) hx hb d_PA_isNumber_43 (by decide) (fun hc => ?_) (fun hc => ?_)
          · replace h := ifP h hc
            refine lv_lload_n hx hb d_PA_isNumber_54 rfl (lv_at hl 0 rfl) ?_
            refine lv_ldc2 (v := 65536) hx hb hown (hts _ (List.mem_cons_of_mem _ t_149)) d_PA_isNumber_55 ?_
            refine W.lcmp hx hb d_PA_isNumber_58 ?_
            refine lv_if_lt (tgt := 74) hx hb d_PA_isNumber_59 (by decide) (fun hc => ?_) (fun hc => ?_)
            · replace h := ifP h hc
              refine lv_iconst (v := 0) hx hb d_PA_isNumber_74 (by decide) ?_
              subst h
              exact p_zret hX hr hlk (Or.inl rfl) d_PA_isNumber_75
            · replace h := ifN h hc
              refine lv_lload_n hx hb d_PA_isNumber_62 rfl (lv_at hl 0 rfl) ?_
              refine lv_ldc2 (v := 131071) hx hb hown (hts _ (List.mem_cons_of_mem _ t_150)) d_PA_isNumber_63 ?_
              refine W.lcmp hx hb d_PA_isNumber_66 ?_
              refine lv_if_gt (tgt := 74) hx hb d_PA_isNumber_67 (by decide) (fun hc => ?_) (fun hc => ?_)
              · replace h := ifP h hc
                refine lv_iconst (v := 0) hx hb d_PA_isNumber_74 (by decide) ?_
                subst h
                exact p_zret hX hr hlk (Or.inl rfl) d_PA_isNumber_75
              · replace h := ifN h hc
                refine lv_iconst (v := 1) hx hb d_PA_isNumber_70 (by decide) ?_
                refine lv_goto (tgt := 75) hx hb d_PA_isNumber_71 (by decide) ?_
                subst h
                exact p_zret hX hr hlk (Or.inr rfl) d_PA_isNumber_75
          · replace h := ifN h hc
            refine lv_lload_n hx hb d_PA_isNumber_46 rfl (lv_at hl 0 rfl) ?_
            refine lv_ldc2 (v := 8191) hx hb hown (hts _ (List.mem_cons_of_mem _ t_148)) d_PA_isNumber_47 ?_
            refine W.lcmp hx hb d_PA_isNumber_50 ?_
            refine lv_if_le (tgt := 70) hx hb d_PA_isNumber_51 (by decide) (fun hc => ?_) (fun hc => ?_)
            · replace h := ifP h hc
              refine lv_iconst (v := 1) hx hb d_PA_isNumber_70 (by decide) ?_
              refine lv_goto (tgt := 75) hx hb d_PA_isNumber_71 (by decide) ?_
              subst h
              exact p_zret hX hr hlk (Or.inr rfl) d_PA_isNumber_75
            · replace h := ifN h hc
              refine lv_lload_n hx hb d_PA_isNumber_54 rfl (lv_at hl 0 rfl) ?_
              refine lv_ldc2 (v := 65536) hx hb hown (hts _ (List.mem_cons_of_mem _ t_149)) d_PA_isNumber_55 ?_
              refine W.lcmp hx hb d_PA_isNumber_58 ?_
              refine lv_if_lt (tgt := 74) hx hb d_PA_isNumber_59 (by decide) (fun hc => ?_) (fun hc => ?_)
              · replace h := ifP h hc
                refine lv_iconst (v := 0) hx hb d_PA_isNumber_74 (by decide) ?_
                subst h
                exact p_zret hX hr hlk (Or.inl rfl) d_PA_isNumber_75
              · replace h := ifN h hc
                refine lv_lload_n hx hb d_PA_isNumber_62 rfl (lv_at hl 0 rfl) ?_
                refine lv_ldc2 (v := 131071) hx hb hown (hts _ (List.mem_cons_of_mem _ t_150)) d_PA_isNumber_63 ?_
                refine W.lcmp hx hb d_PA_isNumber_66 ?_
                refine lv_if_gt (tgt := 74) hx hb d_PA_isNumber_67 (by decide) (fun hc => ?_) (fun hc => ?_)
                · replace h := ifP h hc
                  refine lv_iconst (v := 0) hx hb d_PA_isNumber_74 (by decide) ?_
                  subst h
                  exact p_zret hX hr hlk (Or.inl rfl) d_PA_isNumber_75
                · replace h := ifN h hc
                  refine lv_iconst (v := 1) hx hb d_PA_isNumber_70 (by decide) ?_
                  refine lv_goto (tgt := 75) hx hb d_PA_isNumber_71 (by decide) ?_
                  subst h
                  exact p_zret hX hr hlk (Or.inr rfl) d_PA_isNumber_75
        · replace h := ifN h hc
          refine lv_lload_n hx hb d_PA_isNumber_30 rfl (lv_at hl 0 rfl) ?_
          refine lv_ldc2 (v := 511) hx hb hown (hts _ (List.mem_cons_of_mem _ t_146)) d_PA_isNumber_31 ?_
          refine W.lcmp hx hb d_PA_isNumber_34 ?_
          refine lv_if_le (tgt := 70) hx hb d_PA_isNumber_35 (by decide) (fun hc => ?_) (fun hc => ?_)
          · replace h := ifP h hc
            refine lv_iconst (v := 1) hx hb d_PA_isNumber_70 (by decide) ?_
            refine lv_goto (tgt := 75) hx hb d_PA_isNumber_71 (by decide) ?_
            subst h
            exact p_zret hX hr hlk (Or.inr rfl) d_PA_isNumber_75
          · replace h := ifN h hc
            refine lv_lload_n hx hb d_PA_isNumber_38 rfl (lv_at hl 0 rfl) ?_
            refine lv_ldc2 (v := 4096) hx hb hown (hts _ (List.mem_cons_of_mem _ t_147)) d_PA_isNumber_39 ?_
            refine W.lcmp hx hb d_PA_isNumber_42 ?_
            refine lv_if_lt (tgt := 54) hx hb d_PA_isNumber_43 (by decide) (fun hc => ?_) (fun hc => ?_)
            · replace h := ifP h hc
              refine lv_lload_n hx hb d_PA_isNumber_54 rfl (lv_at hl 0 rfl) ?_
              refine lv_ldc2 (v := 65536) hx hb hown (hts _ (List.mem_cons_of_mem _ t_149)) d_PA_isNumber_55 ?_
              refine W.lcmp hx hb d_PA_isNumber_58 ?_
              refine lv_if_lt (tgt := 74) hx hb d_PA_isNumber_59 (by decide) (fun hc => ?_) (fun hc => ?_)
              · replace h := ifP h hc
                refine lv_iconst (v := 0) hx hb d_PA_isNumber_74 (by decide) ?_
                subst h
                exact p_zret hX hr hlk (Or.inl rfl) d_PA_isNumber_75
              · replace h := ifN h hc
                refine lv_lload_n hx hb d_PA_isNumber_62 rfl (lv_at hl 0 rfl) ?_
                refine lv_ldc2 (v := 131071) hx hb hown (hts _ (List.mem_cons_of_mem _ t_150)) d_PA_isNumber_63 ?_
                refine W.lcmp hx hb d_PA_isNumber_66 ?_
                refine lv_if_gt (tgt := 74) hx hb d_PA_isNumber_67 (by decide) (fun hc => ?_) (fun hc => ?_)
                · replace h := ifP h hc
                  refine lv_iconst (v := 0) hx hb d_PA_isNumber_74 (by decide) ?_
                  subst h
                  exact p_zret hX hr hlk (Or.inl rfl) d_PA_isNumber_75
                · replace h := ifN h hc
                  refine lv_iconst (v := 1) hx hb d_PA_isNumber_70 (by decide) ?_
                  refine lv_goto (tgt := 75) hx hb d_PA_isNumber_71 (by decide) ?_
                  subst h
                  exact p_zret hX hr hlk (Or.inr rfl) d_PA_isNumber_75
            · replace h := ifN h hc
              refine lv_lload_n hx hb d_PA_isNumber_46 rfl (lv_at hl 0 rfl) ?_
              refine lv_ldc2 (v := 8191) hx hb hown (hts _ (List.mem_cons_of_mem _ t_148)) d_PA_isNumber_47 ?_
              refine W.lcmp hx hb d_PA_isNumber_50 ?_
              refine lv_if_le (tgt := 70) hx hb d_PA_isNumber_51 (by decide) (fun hc => ?_) (fun hc => ?_)
              · replace h := ifP h hc
                refine lv_iconst (v := 1) hx hb d_PA_isNumber_70 (by decide) ?_
                refine lv_goto (tgt := 75) hx hb d_PA_isNumber_71 (by decide) ?_
                subst h
                exact p_zret hX hr hlk (Or.inr rfl) d_PA_isNumber_75
              · replace h := ifN h hc
                refine lv_lload_n hx hb d_PA_isNumber_54 rfl (lv_at hl 0 rfl) ?_
                refine lv_ldc2 (v := 65536) hx hb hown (hts _ (List.mem_cons_of_mem _ t_149)) d_PA_isNumber_55 ?_
                refine W.lcmp hx hb d_PA_isNumber_58 ?_
                refine lv_if_lt (tgt := 74) hx hb d_PA_isNumber_59 (by decide) (fun hc => ?_) (fun hc => ?_)
                · replace h := ifP h hc
                  refine lv_iconst (v := 0) hx hb d_PA_isNumber_74 (by decide) ?_
                  subst h
                  exact p_zret hX hr hlk (Or.inl rfl) d_PA_isNumber_75
                · replace h := ifN h hc
                  refine lv_lload_n hx hb d_PA_isNumber_62 rfl (lv_at hl 0 rfl) ?_
                  refine lv_ldc2 (v := 131071) hx hb hown (hts _ (List.mem_cons_of_mem _ t_150)) d_PA_isNumber_63 ?_
                  refine W.lcmp hx hb d_PA_isNumber_66 ?_
                  refine lv_if_gt (tgt := 74) hx hb d_PA_isNumber_67 (by decide) (fun hc => ?_) (fun hc => ?_)
                  · replace h := ifP h hc
                    refine lv_iconst (v := 0) hx hb d_PA_isNumber_74 (by decide) ?_
                    subst h
                    exact p_zret hX hr hlk (Or.inl rfl) d_PA_isNumber_75
                  · replace h := ifN h hc
                    refine lv_iconst (v := 1) hx hb d_PA_isNumber_70 (by decide) ?_
                    refine lv_goto (tgt := 75) hx hb d_PA_isNumber_71 (by decide) ?_
                    subst h
                    exact p_zret hX hr hlk (Or.inr rfl) d_PA_isNumber_75
set_option maxHeartbeats 4000000 in
set_option maxRecDepth 100000 in
theorem m_PA_length (l : Launch) {out : Int32} (v0 : Int32) (h : f_PA_length v0 = out) : Met l y_PA_length w_PA_length rm_PA_length (fun v _ => v = [.int v0].toArray) (PI out) 0 0 (fun _ => False) := by
  refine Met.ofW (cc := b_PA_length) (maxL := 1) (ret := (some .int)) (by decide) rfl ?_
  intro p e s m av below meth c s₁ B hml hv
  subst hv
  have hX : CallFix p m c b_PA_length 1 s _ w_PA_length "NibbleTrie$Path" := ⟨B.exec, B.bytes, hml, findClass_of_methodNamed B.named, atoms_spec (ws := w_PA_length) B.pre⟩
  have hx := hX.1
  have hb := hX.2.1
  have hown := hX.2.2.2.1
  have hts := hX.2.2.2.2
  have hr := B.returns
  have hlk := B.notSynchronized
  have hl := lv_entry ([.int v0]) (n := 1) (Nat.le_of_ble_eq_true rfl)
  rw [lg_entry_eq]
  generalize (lg_sl ([.int v0]) ++ List.replicate (1 - (lg_sl ([.int v0])).length) Slot.unset).toArray = ls at hl ⊢
  have hl : lv_has ls 1 [(0, .int v0)] := hl
  unfold f_PA_length at h
  refine lv_iload_n hx hb d_PA_length_0 rfl (lv_at hl 0 rfl) ?_
  refine lv_bipush (v := 16) hx hb d_PA_length_1 (by decide) ?_
  refine lv_icmp_ge (tgt := 8) hx hb d_PA_length_3 (by decide) (fun hc => ?_) (fun hc => ?_)
  · replace h := ifP h hc
    refine lv_iload_n hx hb d_PA_length_8 rfl (lv_at hl 0 rfl) ?_
    refine lv_sipush (v := 256) hx hb d_PA_length_9 (by decide) ?_
    refine lv_icmp_ge (tgt := 17) hx hb d_PA_length_12 (by decide) (fun hc => ?_) (fun hc => ?_)
    · replace h := ifP h hc
      refine lv_iload_n hx hb d_PA_length_17 rfl (lv_at hl 0 rfl) ?_
      refine lv_sipush (v := 4096) hx hb d_PA_length_18 (by decide) ?_
      refine lv_icmp_ge (tgt := 26) hx hb d_PA_length_21 (by decide) (fun hc => ?_) (fun hc => ?_)
      · replace h := ifP h hc
        refine lv_iload_n hx hb d_PA_length_26 rfl (lv_at hl 0 rfl) ?_
        refine lv_ldc (v := 65536) hx hb hown (hts _ (List.mem_cons_of_mem _ t_169)) d_PA_length_27 ?_
        refine lv_icmp_ge (tgt := 36) hx hb d_PA_length_29 (by decide) (fun hc => ?_) (fun hc => ?_)
        · replace h := ifP h hc
          refine lv_iconst (v := 4) hx hb d_PA_length_36 (by decide) ?_
          subst h
          exact p_iret hX hr hlk d_PA_length_37
        · replace h := ifN h hc
          refine lv_iconst (v := 3) hx hb d_PA_length_32 (by decide) ?_
          refine lv_goto (tgt := 37) hx hb d_PA_length_33 (by decide) ?_
          subst h
          exact p_iret hX hr hlk d_PA_length_37
      · replace h := ifN h hc
        refine lv_iconst (v := 2) hx hb d_PA_length_24 (by decide) ?_
        subst h
        exact p_iret hX hr hlk d_PA_length_25
    · replace h := ifN h hc
      refine lv_iconst (v := 1) hx hb d_PA_length_15 (by decide) ?_
      subst h
      exact p_iret hX hr hlk d_PA_length_16
  · replace h := ifN h hc
    refine lv_iconst (v := 0) hx hb d_PA_length_6 (by decide) ?_
    subst h
    exact p_iret hX hr hlk d_PA_length_7
set_option maxHeartbeats 4000000 in
set_option maxRecDepth 100000 in
theorem m_PA_nibble (l : Launch) {out : Int32} (v0 : Int32) (v1 : Int32) (h : f_PA_nibble v0 v1 = out) : Met l y_PA_nibble w_PA_nibble rm_PA_nibble (fun v _ => v = [.int v0, .int v1].toArray) (PI out) 0 0 (fun _ => False) := by
  refine Met.ofW (cc := b_PA_nibble) (maxL := 2) (ret := (some .int)) (by decide) rfl ?_
  intro p e s m av below meth c s₁ B hml hv
  subst hv
  have hX : CallFix p m c b_PA_nibble 2 s _ w_PA_nibble "NibbleTrie$Path" := ⟨B.exec, B.bytes, hml, findClass_of_methodNamed B.named, atoms_spec (ws := w_PA_nibble) B.pre⟩
  have hx := hX.1
  have hb := hX.2.1
  have hown := hX.2.2.2.1
  have hts := hX.2.2.2.2
  have hr := B.returns
  have hlk := B.notSynchronized
  have hl := lv_entry ([.int v0, .int v1]) (n := 2) (Nat.le_of_ble_eq_true rfl)
  rw [lg_entry_eq]
  generalize (lg_sl ([.int v0, .int v1]) ++ List.replicate (2 - (lg_sl ([.int v0, .int v1])).length) Slot.unset).toArray = ls at hl ⊢
  have hl : lv_has ls 2 [(0, .int v0), (1, .int v1)] := hl
  unfold f_PA_nibble at h
  refine lv_iload_n hx hb d_PA_nibble_0 rfl (lv_at hl 0 rfl) ?_
  refine lv_iconst (v := 4) hx hb d_PA_nibble_1 (by decide) ?_
  refine lv_iload_n hx hb d_PA_nibble_2 rfl (lv_at hl 0 rfl) ?_
  refine kp_i (va_runS (As := [.int v0]) (rest := [.int 4, .int v0]) hX (m_PA_length l  v0 rfl) (cb_PA_length hts t_166 ⟨Nat.le_of_ble_eq_true rfl, Nat.le_of_ble_eq_true rfl⟩) preEq rfl rfl hl.1 rfl (lv_room (Nat.le_of_ble_eq_true rfl)) d_PA_nibble_3 ⟨Nat.zero_le _, Nat.zero_le _⟩) ?_
  refine lv_iload_n hx hb d_PA_nibble_6 rfl (lv_at hl 1 rfl) ?_
  refine lv_isub hx hb d_PA_nibble_7 ?_
  refine lv_iconst (v := 1) hx hb d_PA_nibble_8 (by decide) ?_
  refine lv_isub hx hb d_PA_nibble_9 ?_
  refine lv_imul hx hb d_PA_nibble_10 ?_
  refine lv_ishr hx hb d_PA_nibble_11 ?_
  refine lv_bipush (v := 15) hx hb d_PA_nibble_12 (by decide) ?_
  refine lv_iand hx hb d_PA_nibble_14 ?_
  subst h
  exact p_iret hX hr hlk d_PA_nibble_15
set_option maxHeartbeats 4000000 in
set_option maxRecDepth 100000 in
theorem m_PA_front (l : Launch) {out : Int32} (v0 : Int32) (v1 : Int32) (h : f_PA_front v0 v1 = out) : Met l y_PA_front w_PA_front rm_PA_front (fun v _ => v = [.int v0, .int v1].toArray) (PI out) 0 0 (fun _ => False) := by
  refine Met.ofW (cc := b_PA_front) (maxL := 2) (ret := (some .int)) (by decide) rfl ?_
  intro p e s m av below meth c s₁ B hml hv
  subst hv
  have hX : CallFix p m c b_PA_front 2 s _ w_PA_front "NibbleTrie$Path" := ⟨B.exec, B.bytes, hml, findClass_of_methodNamed B.named, atoms_spec (ws := w_PA_front) B.pre⟩
  have hx := hX.1
  have hb := hX.2.1
  have hown := hX.2.2.2.1
  have hts := hX.2.2.2.2
  have hr := B.returns
  have hlk := B.notSynchronized
  have hl := lv_entry ([.int v0, .int v1]) (n := 2) (Nat.le_of_ble_eq_true rfl)
  rw [lg_entry_eq]
  generalize (lg_sl ([.int v0, .int v1]) ++ List.replicate (2 - (lg_sl ([.int v0, .int v1])).length) Slot.unset).toArray = ls at hl ⊢
  have hl : lv_has ls 2 [(0, .int v0), (1, .int v1)] := hl
  unfold f_PA_front at h
  refine lv_iload_n hx hb d_PA_front_0 rfl (lv_at hl 0 rfl) ?_
  refine lv_iconst (v := 4) hx hb d_PA_front_1 (by decide) ?_
  refine lv_iload_n hx hb d_PA_front_2 rfl (lv_at hl 0 rfl) ?_
  refine kp_i (va_runS (As := [.int v0]) (rest := [.int 4, .int v0]) hX (m_PA_length l  v0 rfl) (cb_PA_length hts t_166 ⟨Nat.le_of_ble_eq_true rfl, Nat.le_of_ble_eq_true rfl⟩) preEq rfl rfl hl.1 rfl (lv_room (Nat.le_of_ble_eq_true rfl)) d_PA_front_3 ⟨Nat.zero_le _, Nat.zero_le _⟩) ?_
  refine lv_iload_n hx hb d_PA_front_6 rfl (lv_at hl 1 rfl) ?_
  refine lv_isub hx hb d_PA_front_7 ?_
  refine lv_imul hx hb d_PA_front_8 ?_
  refine lv_ishr hx hb d_PA_front_9 ?_
  subst h
  exact p_iret hX hr hlk d_PA_front_10
set_option maxHeartbeats 4000000 in
set_option maxRecDepth 100000 in
theorem m_PA_without (l : Launch) {out : Int32} (v0 : Int32) (v1 : Int32) (h : f_PA_without v0 v1 = out) : Met l y_PA_without w_PA_without rm_PA_without (fun v _ => v = [.int v0, .int v1].toArray) (PI out) 0 0 (fun _ => False) := by
  refine Met.ofW (cc := b_PA_without) (maxL := 3) (ret := (some .int)) (by decide) rfl ?_
  intro p e s m av below meth c s₁ B hml hv
  subst hv
  have hX : CallFix p m c b_PA_without 3 s _ w_PA_without "NibbleTrie$Path" := ⟨B.exec, B.bytes, hml, findClass_of_methodNamed B.named, atoms_spec (ws := w_PA_without) B.pre⟩
  have hx := hX.1
  have hb := hX.2.1
  have hown := hX.2.2.2.1
  have hts := hX.2.2.2.2
  have hr := B.returns
  have hlk := B.notSynchronized
  have hl := lv_entry ([.int v0, .int v1]) (n := 3) (Nat.le_of_ble_eq_true rfl)
  rw [lg_entry_eq]
  generalize (lg_sl ([.int v0, .int v1]) ++ List.replicate (3 - (lg_sl ([.int v0, .int v1])).length) Slot.unset).toArray = ls at hl ⊢
  have hl : lv_has ls 3 [(0, .int v0), (1, .int v1)] := hl
  unfold f_PA_without at h
  refine lv_iconst (v := 4) hx hb d_PA_without_0 (by decide) ?_
  refine lv_iload_n hx hb d_PA_without_1 rfl (lv_at hl 0 rfl) ?_
  refine kp_i (va_runS (As := [.int v0]) (rest := [.int 4]) hX (m_PA_length l  v0 rfl) (cb_PA_length hts t_166 ⟨Nat.le_of_ble_eq_true rfl, Nat.le_of_ble_eq_true rfl⟩) preEq rfl rfl hl.1 rfl (lv_room (Nat.le_of_ble_eq_true rfl)) d_PA_without_2 ⟨Nat.zero_le _, Nat.zero_le _⟩) ?_
  refine lv_iload_n hx hb d_PA_without_5 rfl (lv_at hl 1 rfl) ?_
  refine lv_isub hx hb d_PA_without_6 ?_
  refine lv_imul hx hb d_PA_without_7 ?_
  refine lv_topi (fun x1 ex1 => ?_)
  replace h := stA h ex1
  refine lv_istore_n (lv' := [(2, .int x1), (0, .int v0), (1, .int v1)]) hx hb d_PA_without_8 rfl hl (by decide) rfl (fun ls hl => ?_)
  refine lv_iconst (v := 1) hx hb d_PA_without_9 (by decide) ?_
  refine lv_iload_n hx hb d_PA_without_10 rfl (lv_at hl 0 rfl) ?_
  refine lv_ishl hx hb d_PA_without_11 ?_
  refine lv_iload_n hx hb d_PA_without_12 rfl (lv_at hl 1 rfl) ?_
  refine lv_iconst (v := 1) hx hb d_PA_without_13 (by decide) ?_
  refine lv_iload_n hx hb d_PA_without_14 rfl (lv_at hl 0 rfl) ?_
  refine lv_ishl hx hb d_PA_without_15 ?_
  refine lv_iconst (v := 1) hx hb d_PA_without_16 (by decide) ?_
  refine lv_isub hx hb d_PA_without_17 ?_
  refine lv_iand hx hb d_PA_without_18 ?_
  refine lv_ior hx hb d_PA_without_19 ?_
  subst h
  exact p_iret hX hr hlk d_PA_without_20
set_option maxHeartbeats 4000000 in
set_option maxRecDepth 100000 in
theorem m_PA_begins (l : Launch) {out : Int32} (v0 : Int32) (v1 : Int32) (h : f_PA_begins v0 v1 = out) : Met l y_PA_begins w_PA_begins rm_PA_begins (fun v _ => v = [.int v0, .int v1].toArray) (PZ out) 0 0 (fun _ => False) := by
  refine Met.ofW (cc := b_PA_begins) (maxL := 3) (ret := (some .boolean)) (by decide) rfl ?_
  intro p e s m av below meth c s₁ B hml hv
  subst hv
  have hX : CallFix p m c b_PA_begins 3 s _ w_PA_begins "NibbleTrie$Path" := ⟨B.exec, B.bytes, hml, findClass_of_methodNamed B.named, atoms_spec (ws := w_PA_begins) B.pre⟩
  have hx := hX.1
  have hb := hX.2.1
  have hown := hX.2.2.2.1
  have hts := hX.2.2.2.2
  have hr := B.returns
  have hlk := B.notSynchronized
  have hl := lv_entry ([.int v0, .int v1]) (n := 3) (Nat.le_of_ble_eq_true rfl)
  rw [lg_entry_eq]
  generalize (lg_sl ([.int v0, .int v1]) ++ List.replicate (3 - (lg_sl ([.int v0, .int v1])).length) Slot.unset).toArray = ls at hl ⊢
  have hl : lv_has ls 3 [(0, .int v0), (1, .int v1)] := hl
  unfold f_PA_begins at h
  refine lv_iload_n hx hb d_PA_begins_0 rfl (lv_at hl 1 rfl) ?_
  refine kp_i (va_runS (As := [.int v1]) (rest := []) hX (m_PA_length l  v1 rfl) (cb_PA_length hts t_166 ⟨Nat.le_of_ble_eq_true rfl, Nat.le_of_ble_eq_true rfl⟩) preEq rfl rfl hl.1 rfl (lv_room (Nat.le_of_ble_eq_true rfl)) d_PA_begins_1 ⟨Nat.zero_le _, Nat.zero_le _⟩) ?_
  refine lv_istore_n (lv' := [(2, .int (f_PA_length v1)), (0, .int v0), (1, .int v1)]) hx hb d_PA_begins_4 rfl hl (by decide) rfl (fun ls hl => ?_)
  refine lv_iload_n hx hb d_PA_begins_5 rfl (lv_at hl 1 rfl) ?_
  refine kp_i (va_runS (As := [.int v0]) (rest := []) hX (m_PA_length l  v0 rfl) (cb_PA_length hts t_166 ⟨Nat.le_of_ble_eq_true rfl, Nat.le_of_ble_eq_true rfl⟩) preEq rfl rfl hl.1 rfl (lv_room (Nat.le_of_ble_eq_true rfl)) d_PA_begins_6 ⟨Nat.zero_le _, Nat.zero_le _⟩) ?_
  refine lv_iload_n hx hb d_PA_begins_9 rfl (lv_at hl 0 rfl) ?_
  refine lv_icmp_lt (tgt := 26) hx hb d_PA_begins_10 (by decide) (fun hc => ?_) (fun hc => ?_)
  · replace h := ifP h hc
    refine lv_iconst (v := 0) hx hb d_PA_begins_26 (by decide) ?_
    subst h
    exact p_zret hX hr hlk (Or.inl rfl) d_PA_begins_27
  · replace h := ifN h hc
    refine lv_iload_n hx hb d_PA_begins_13 rfl (lv_at hl 1 rfl) ?_
    refine lv_iload_n hx hb d_PA_begins_14 rfl (lv_at hl 0 rfl) ?_
    refine kp_i (va_runS (As := [.int v0, .int (f_PA_length v1)]) (rest := []) hX (m_PA_front l  v0 (f_PA_length v1) rfl) (cb_PA_front hts t_350 ⟨Nat.le_of_ble_eq_true rfl, Nat.le_of_ble_eq_true rfl⟩) preEq rfl rfl hl.1 rfl (lv_room (Nat.le_of_ble_eq_true rfl)) d_PA_begins_15 ⟨Nat.zero_le _, Nat.zero_le _⟩) ?_
    refine lv_iload_n hx hb d_PA_begins_18 rfl (lv_at hl 2 rfl) ?_
    refine lv_icmp_ne (tgt := 26) hx hb d_PA_begins_19 (by decide) (fun hc => ?_) (fun hc => ?_)
    · replace h := ifN h hc
      refine lv_iconst (v := 0) hx hb d_PA_begins_26 (by decide) ?_
      subst h
      exact p_zret hX hr hlk (Or.inl rfl) d_PA_begins_27
    · replace h := ifP h hc
      refine lv_iconst (v := 1) hx hb d_PA_begins_22 (by decide) ?_
      refine lv_goto (tgt := 27) hx hb d_PA_begins_23 (by decide) ?_
      subst h
      exact p_zret hX hr hlk (Or.inr rfl) d_PA_begins_27
set_option maxHeartbeats 4000000 in
set_option maxRecDepth 100000 in
theorem w_PA_commonLength_14 {p : Program} {l : Launch} {e : Env} {s : State} {m : MethodId} {args : Array Value} {below : List Frame} {meth : Method} {c : Code} (hX : CallFix p m c b_PA_commonLength 4 s args w_PA_commonLength "NibbleTrie$Path") (hr : meth.sig.returnType = (some .int)) (hlk : meth.locks = false) {out : Int32} : ∀ (n : Nat) (v0 : Int32) (v1 : Int32) (v2 : Int32) (v3 : Int32) (ls : Array Slot), lv_has ls 4 [(0, .int v0), (1, .int v1), (2, .int v2), (3, .int v3)] → f_PA_commonLength_14 n v0 v1 v2 v3 = some out → W p l e rm_PA_commonLength s m args below meth c s.heap [] 0 0 (MQ below (PI out) args s 0 0 (fun _ => False)) (F0 m 14 ls []) := by
  have hx := hX.1
  have hb := hX.2.1
  have hown := hX.2.2.2.1
  have hts := hX.2.2.2.2
  intro n
  induction n with
  | zero => intro _ _ _ _ _ _ h; rw [f_PA_commonLength_14] at h; cases h
  | succ n ih =>
    intro v0 v1 v2 v3 ls hl h
    rw [f_PA_commonLength_14] at h
    refine lv_iload_n hx hb d_PA_commonLength_14 rfl (lv_at hl 3 rfl) ?_
    refine lv_iload_n hx hb d_PA_commonLength_15 rfl (lv_at hl 2 rfl) ?_
    refine lv_icmp_ge (tgt := 38) hx hb d_PA_commonLength_16 (by decide) (fun hc => ?_) (fun hc => ?_)
    · replace h := ifP h hc
      refine lv_iload_n hx hb d_PA_commonLength_38 rfl (lv_at hl 3 rfl) ?_
      obtain rfl := Option.some.inj h
      exact p_iret hX hr hlk d_PA_commonLength_39
    · replace h := ifN h hc
      refine lv_iload_n hx hb d_PA_commonLength_19 rfl (lv_at hl 0 rfl) ?_
      refine lv_iload_n hx hb d_PA_commonLength_20 rfl (lv_at hl 3 rfl) ?_
      refine kp_i (va_runS (As := [.int v0, .int v3]) (rest := []) hX (m_PA_nibble l  v0 v3 rfl) (cb_PA_nibble hts t_182 ⟨Nat.le_of_ble_eq_true rfl, Nat.le_of_ble_eq_true rfl⟩) preEq rfl rfl hl.1 rfl (lv_room (Nat.le_of_ble_eq_true rfl)) d_PA_commonLength_21 ⟨Nat.zero_le _, Nat.zero_le _⟩) ?_
      refine lv_iload_n hx hb d_PA_commonLength_24 rfl (lv_at hl 1 rfl) ?_
      refine lv_iload_n hx hb d_PA_commonLength_25 rfl (lv_at hl 3 rfl) ?_
      refine kp_i (va_runS (As := [.int v1, .int v3]) (rest := [.int (f_PA_nibble v0 v3)]) hX (m_PA_nibble l  v1 v3 rfl) (cb_PA_nibble hts t_182 ⟨Nat.le_of_ble_eq_true rfl, Nat.le_of_ble_eq_true rfl⟩) preEq rfl rfl hl.1 rfl (lv_room (Nat.le_of_ble_eq_true rfl)) d_PA_commonLength_26 ⟨Nat.zero_le _, Nat.zero_le _⟩) ?_
      refine lv_icmp_ne (tgt := 38) hx hb d_PA_commonLength_29 (by decide) (fun hc => ?_) (fun hc => ?_)
      · replace h := ifN h hc
        refine lv_iload_n hx hb d_PA_commonLength_38 rfl (lv_at hl 3 rfl) ?_
        obtain rfl := Option.some.inj h
        exact p_iret hX hr hlk d_PA_commonLength_39
      · replace h := ifP h hc
        refine lv_iinc (k := 3) (v := (v3 + 1)) (lv' := [(3, .int (v3 + 1)), (0, .int v0), (1, .int v1), (2, .int v2)]) hx hb d_PA_commonLength_32 hl rfl (by rfl) (by decide) rfl (fun ls hl => ?_)
        refine lv_goto (tgt := 14) hx hb d_PA_commonLength_35 (by decide) ?_
        exact ih v0 v1 v2 (v3 + 1) _ (lv_sub hl [1, 2, 3, 0] rfl) h
set_option maxHeartbeats 4000000 in
set_option maxRecDepth 100000 in
theorem m_PA_commonLength (l : Launch) {out : Int32} (v0 : Int32) (v1 : Int32) (h : f_PA_commonLength v0 v1 = some out) : Met l y_PA_commonLength w_PA_commonLength rm_PA_commonLength (fun v _ => v = [.int v0, .int v1].toArray) (PI out) 0 0 (fun _ => False) := by
  refine Met.ofW (cc := b_PA_commonLength) (maxL := 4) (ret := (some .int)) (by decide) rfl ?_
  intro p e s m av below meth c s₁ B hml hv
  subst hv
  have hX : CallFix p m c b_PA_commonLength 4 s _ w_PA_commonLength "NibbleTrie$Path" := ⟨B.exec, B.bytes, hml, findClass_of_methodNamed B.named, atoms_spec (ws := w_PA_commonLength) B.pre⟩
  have hx := hX.1
  have hb := hX.2.1
  have hown := hX.2.2.2.1
  have hts := hX.2.2.2.2
  have hr := B.returns
  have hlk := B.notSynchronized
  have hl := lv_entry ([.int v0, .int v1]) (n := 4) (Nat.le_of_ble_eq_true rfl)
  rw [lg_entry_eq]
  generalize (lg_sl ([.int v0, .int v1]) ++ List.replicate (4 - (lg_sl ([.int v0, .int v1])).length) Slot.unset).toArray = ls at hl ⊢
  have hl : lv_has ls 4 [(0, .int v0), (1, .int v1)] := hl
  unfold f_PA_commonLength at h
  refine lv_iload_n hx hb d_PA_commonLength_0 rfl (lv_at hl 0 rfl) ?_
  refine kp_i (va_runS (As := [.int v0]) (rest := []) hX (m_PA_length l  v0 rfl) (cb_PA_length hts t_166 ⟨Nat.le_of_ble_eq_true rfl, Nat.le_of_ble_eq_true rfl⟩) preEq rfl rfl hl.1 rfl (lv_room (Nat.le_of_ble_eq_true rfl)) d_PA_commonLength_1 ⟨Nat.zero_le _, Nat.zero_le _⟩) ?_
  refine lv_iload_n hx hb d_PA_commonLength_4 rfl (lv_at hl 1 rfl) ?_
  refine kp_i (va_runS (As := [.int v1]) (rest := [.int (f_PA_length v0)]) hX (m_PA_length l  v1 rfl) (cb_PA_length hts t_166 ⟨Nat.le_of_ble_eq_true rfl, Nat.le_of_ble_eq_true rfl⟩) preEq rfl rfl hl.1 rfl (lv_room (Nat.le_of_ble_eq_true rfl)) d_PA_commonLength_5 ⟨Nat.zero_le _, Nat.zero_le _⟩) ?_
  refine r_mmin hX t_181 hl.1 (Nat.le_of_ble_eq_true rfl) (Nat.le_of_ble_eq_true rfl) d_PA_commonLength_8 ?_
  refine lv_topi (fun x1 ex1 => ?_)
  replace h := stA h ex1
  refine lv_istore_n (lv' := [(2, .int x1), (0, .int v0), (1, .int v1)]) hx hb d_PA_commonLength_11 rfl hl (by decide) rfl (fun ls hl => ?_)
  refine lv_iconst (v := 0) hx hb d_PA_commonLength_12 (by decide) ?_
  refine lv_istore_n (lv' := [(3, .int 0), (2, .int x1), (0, .int v0), (1, .int v1)]) hx hb d_PA_commonLength_13 rfl hl (by decide) rfl (fun ls hl => ?_)
  exact w_PA_commonLength_14 hX hr hlk FU v0 v1 x1 0 _ (lv_sub hl [2, 3, 1, 0] rfl) h
set_option maxHeartbeats 4000000 in
set_option maxRecDepth 100000 in
theorem m_PA_order (l : Launch) {out : Int32} (v0 : Int32) (h : f_PA_order v0 = out) : Met l y_PA_order w_PA_order rm_PA_order (fun v _ => v = [.int v0].toArray) (PI out) 0 0 (fun _ => False) := by
  refine Met.ofW (cc := b_PA_order) (maxL := 2) (ret := (some .int)) (by decide) rfl ?_
  intro p e s m av below meth c s₁ B hml hv
  subst hv
  have hX : CallFix p m c b_PA_order 2 s _ w_PA_order "NibbleTrie$Path" := ⟨B.exec, B.bytes, hml, findClass_of_methodNamed B.named, atoms_spec (ws := w_PA_order) B.pre⟩
  have hx := hX.1
  have hb := hX.2.1
  have hown := hX.2.2.2.1
  have hts := hX.2.2.2.2
  have hr := B.returns
  have hlk := B.notSynchronized
  have hl := lv_entry ([.int v0]) (n := 2) (Nat.le_of_ble_eq_true rfl)
  rw [lg_entry_eq]
  generalize (lg_sl ([.int v0]) ++ List.replicate (2 - (lg_sl ([.int v0])).length) Slot.unset).toArray = ls at hl ⊢
  have hl : lv_has ls 2 [(0, .int v0)] := hl
  unfold f_PA_order at h
  refine lv_iload_n hx hb d_PA_order_0 rfl (lv_at hl 0 rfl) ?_
  refine kp_i (va_runS (As := [.int v0]) (rest := []) hX (m_PA_length l  v0 rfl) (cb_PA_length hts t_166 ⟨Nat.le_of_ble_eq_true rfl, Nat.le_of_ble_eq_true rfl⟩) preEq rfl rfl hl.1 rfl (lv_room (Nat.le_of_ble_eq_true rfl)) d_PA_order_1 ⟨Nat.zero_le _, Nat.zero_le _⟩) ?_
  refine lv_istore_n (lv' := [(1, .int (f_PA_length v0)), (0, .int v0)]) hx hb d_PA_order_4 rfl hl (by decide) rfl (fun ls hl => ?_)
  refine lv_iload_n hx hb d_PA_order_5 rfl (lv_at hl 1 rfl) ?_
  refine lv_iconst (v := 4) hx hb d_PA_order_6 (by decide) ?_
  refine lv_iconst (v := 4) hx hb d_PA_order_7 (by decide) ?_
  refine lv_iload_n hx hb d_PA_order_8 rfl (lv_at hl 0 rfl) ?_
  refine lv_isub hx hb d_PA_order_9 ?_
  refine lv_imul hx hb d_PA_order_10 ?_
  refine lv_ishl hx hb d_PA_order_11 ?_
  refine lv_iconst (v := 3) hx hb d_PA_order_12 (by decide) ?_
  refine lv_ishl hx hb d_PA_order_13 ?_
  refine lv_iload_n hx hb d_PA_order_14 rfl (lv_at hl 0 rfl) ?_
  refine lv_ior hx hb d_PA_order_15 ?_
  subst h
  exact p_iret hX hr hlk d_PA_order_16
