/-! the walks of these methods, by program out of the bytecode -/
set_option maxHeartbeats 4000000 in
set_option maxRecDepth 100000 in
theorem m_MO_nibbles (l : Launch) {out : Int32} (v0 : Int32) (h : f_MO_nibbles v0 = out) : Met l y_MO_nibbles w_MO_nibbles rm_MO_nibbles (fun v _ => v = [.int v0].toArray) (PI out) 0 0 (fun _ => False) := by
  refine Met.ofW (cc := b_MO_nibbles) (maxL := 1) (ret := (some .int)) (by decide) rfl ?_
  intro p e s m av below meth c s₁ B hml hv
  subst hv
  have hX : CallFix p m c b_MO_nibbles 1 s _ w_MO_nibbles "NibbleTrieModel" := ⟨B.exec, B.bytes, hml, findClass_of_methodNamed B.named, atoms_spec (ws := w_MO_nibbles) B.pre⟩
  have hx := hX.1
  have hb := hX.2.1
  have hown := hX.2.2.2.1
  have hts := hX.2.2.2.2
  have hr := B.returns
  have hlk := B.notSynchronized
  have hl := lv_entry ([.int v0]) (n := 1) (Nat.le_of_ble_eq_true rfl)
  rw [lg_entry_eq]
  generalize (lg_sl ([.int v0]) ++ List.replicate (1 - (lg_sl ([.int v0])).length) Slot.unset).toArray = ls at hl ⊢
  have hl : lv_has ls 1 [(0, .int v0)] := hl
  unfold f_MO_nibbles at h
  refine lv_iload_n hx hb d_MO_nibbles_0 rfl (lv_at hl 0 rfl) ?_
  refine lv_iconst (v := 1) hx hb d_MO_nibbles_1 (by decide) ?_
  refine lv_icmp_ne (tgt := 9) hx hb d_MO_nibbles_2 (by decide) (fun hc => ?_) (fun hc => ?_)
  · replace h := ifN h hc
    refine lv_iload_n hx hb d_MO_nibbles_9 rfl (lv_at hl 0 rfl) ?_
    refine lv_bipush (v := 16) hx hb d_MO_nibbles_10 (by decide) ?_
    refine lv_icmp_lt (tgt := 25) hx hb d_MO_nibbles_12 (by decide) (fun hc => ?_) (fun hc => ?_)
    · replace h := ifP h hc
      refine lv_iload_n hx hb d_MO_nibbles_25 rfl (lv_at hl 0 rfl) ?_
      refine lv_sipush (v := 256) hx hb d_MO_nibbles_26 (by decide) ?_
      refine lv_icmp_lt (tgt := 43) hx hb d_MO_nibbles_29 (by decide) (fun hc => ?_) (fun hc => ?_)
      · replace h := ifP h hc
        refine lv_iload_n hx hb d_MO_nibbles_43 rfl (lv_at hl 0 rfl) ?_
        refine lv_sipush (v := 4096) hx hb d_MO_nibbles_44 (by decide) ?_
        refine lv_icmp_lt (tgt := 61) hx hb d_MO_nibbles_47 (by decide) (fun hc => ?_) (fun hc => ?_)
        · replace h := ifP h hc
          refine lv_iload_n hx hb d_MO_nibbles_61 rfl (lv_at hl 0 rfl) ?_
          refine lv_ldc (v := 65536) hx hb hown (hts _ (List.mem_cons_of_mem _ t_471)) d_MO_nibbles_62 ?_
          refine lv_icmp_lt (tgt := 77) hx hb d_MO_nibbles_64 (by decide) (fun hc => ?_) (fun hc => ?_)
          · replace h := ifP h hc
            refine lv_iconst (v := (-1)) hx hb d_MO_nibbles_77 (by decide) ?_
            subst h
            exact p_iret hX hr hlk d_MO_nibbles_78
          · replace h := ifN h hc
            refine lv_iload_n hx hb d_MO_nibbles_67 rfl (lv_at hl 0 rfl) ?_
            refine lv_ldc (v := 131072) hx hb hown (hts _ (List.mem_cons_of_mem _ t_472)) d_MO_nibbles_68 ?_
            refine lv_icmp_ge (tgt := 77) hx hb d_MO_nibbles_70 (by decide) (fun hc => ?_) (fun hc => ?_)
            · replace h := ifP h hc
              refine lv_iconst (v := (-1)) hx hb d_MO_nibbles_77 (by decide) ?_
              subst h
              exact p_iret hX hr hlk d_MO_nibbles_78
            · replace h := ifN h hc
              refine lv_iconst (v := 4) hx hb d_MO_nibbles_73 (by decide) ?_
              refine lv_goto (tgt := 78) hx hb d_MO_nibbles_74 (by decide) ?_
              subst h
              exact p_iret hX hr hlk d_MO_nibbles_78
        · replace h := ifN h hc
          refine lv_iload_n hx hb d_MO_nibbles_50 rfl (lv_at hl 0 rfl) ?_
          refine lv_sipush (v := 8192) hx hb d_MO_nibbles_51 (by decide) ?_
          refine lv_icmp_ge (tgt := 61) hx hb d_MO_nibbles_54 (by decide) (fun hc => ?_) (fun hc => ?_)
          · replace h := ifP h hc
            refine lv_iload_n hx hb d_MO_nibbles_61 rfl (lv_at hl 0 rfl) ?_
            refine lv_ldc (v := 65536) hx hb hown (hts _ (List.mem_cons_of_mem _ t_471)) d_MO_nibbles_62 ?_
            refine lv_icmp_lt (tgt := 77) hx hb d_MO_nibbles_64 (by decide) (fun hc => ?_) (fun hc => ?_)
            · replace h := ifP h hc
              refine lv_iconst (v := (-1)) hx hb d_MO_nibbles_77 (by decide) ?_
              subst h
              exact p_iret hX hr hlk d_MO_nibbles_78
            · replace h := ifN h hc
              refine lv_iload_n hx hb d_MO_nibbles_67 rfl (lv_at hl 0 rfl) ?_
              refine lv_ldc (v := 131072) hx hb hown (hts _ (List.mem_cons_of_mem _ t_472)) d_MO_nibbles_68 ?_
              refine lv_icmp_ge (tgt := 77) hx hb d_MO_nibbles_70 (by decide) (fun hc => ?_) (fun hc => ?_)
              · replace h := ifP h hc
                refine lv_iconst (v := (-1)) hx hb d_MO_nibbles_77 (by decide) ?_
                subst h
                exact p_iret hX hr hlk d_MO_nibbles_78
              · replace h := ifN h hc
                refine lv_iconst (v := 4) hx hb d_MO_nibbles_73 (by decide) ?_
                refine lv_goto (tgt := 78) hx hb d_MO_nibbles_74 (by decide) ?_
                subst h
                exact p_iret hX hr hlk d_MO_nibbles_78
          · replace h := ifN h hc
            refine lv_iconst (v := 3) hx hb d_MO_nibbles_57 (by decide) ?_
            refine lv_goto (tgt := 78) hx hb d_MO_nibbles_58 (by decide) ?_
            subst h
            exact p_iret hX hr hlk d_MO_nibbles_78
      · replace h := ifN h hc
        refine lv_iload_n hx hb d_MO_nibbles_32 rfl (lv_at hl 0 rfl) ?_
        refine lv_sipush (v := 512) hx hb d_MO_nibbles_33 (by decide) ?_
        refine lv_icmp_ge (tgt := 43) hx hb d_MO_nibbles_36 (by decide) (fun hc => ?_) (fun hc => ?_)
        · replace h := ifP h hc
          refine lv_iload_n hx hb d_MO_nibbles_43 rfl (lv_at hl 0 rfl) ?_
          refine lv_sipush (v := 4096) hx hb d_MO_nibbles_44 (by decide) ?_
          refine lv_icmp_lt (tgt := 61) hx hb d_MO_nibbles_47 (by decide) (fun hc => ?_) (fun hc => ?_)
          · replace h := ifP h hc
            refine lv_iload_n hx hb d_MO_nibbles_61 rfl (lv_at hl 0 rfl) ?_
            refine lv_ldc (v := 65536) hx hb hown (hts _ (List.mem_cons_of_mem _ t_471)) d_MO_nibbles_62 ?_
            refine lv_icmp_lt (tgt := 77) hx hb d_MO_nibbles_64 (by decide) (fun hc => ?_) (fun hc => ?_)
            · replace h := ifP h hc
              refine lv_iconst (v := (-1)) hx hb d_MO_nibbles_77 (by decide) ?_
              subst h
              exact p_iret hX hr hlk d_MO_nibbles_78
            · replace h := ifN h hc
              refine lv_iload_n hx hb d_MO_nibbles_67 rfl (lv_at hl 0 rfl) ?_
              refine lv_ldc (v := 131072) hx hb hown (hts _ (List.mem_cons_of_mem _ t_472)) d_MO_nibbles_68 ?_
              refine lv_icmp_ge (tgt := 77) hx hb d_MO_nibbles_70 (by decide) (fun hc => ?_) (fun hc => ?_)
              · replace h := ifP h hc
                refine lv_iconst (v := (-1)) hx hb d_MO_nibbles_77 (by decide) ?_
                subst h
                exact p_iret hX hr hlk d_MO_nibbles_78
              · replace h := ifN h hc
                refine lv_iconst (v := 4) hx hb d_MO_nibbles_73 (by decide) ?_
                refine lv_goto (tgt := 78) hx hb d_MO_nibbles_74 (by decide) ?_
                subst h
                exact p_iret hX hr hlk d_MO_nibbles_78
          · replace h := ifN h hc
            refine lv_iload_n hx hb d_MO_nibbles_50 rfl (lv_at hl 0 rfl) ?_
            refine lv_sipush (v := 8192) hx hb d_MO_nibbles_51 (by decide) ?_
            refine lv_icmp_ge (tgt := 61) hx hb d_MO_nibbles_54 (by decide) (fun hc => ?_) (fun hc => ?_)
            · replace h := ifP h hc
              refine lv_iload_n hx hb d_MO_nibbles_61 rfl (lv_at hl 0 rfl) ?_
              refine lv_ldc (v := 65536) hx hb hown (hts _ (List.mem_cons_of_mem _ t_471)) d_MO_nibbles_62 ?_
              refine lv_icmp_lt (tgt := 77) hx hb d_MO_nibbles_64 (by decide) (fun hc => ?_) (fun hc => ?_)
              · replace h := ifP h hc
                refine lv_iconst (v := (-1)) hx hb d_MO_nibbles_77 (by decide) ?_
                subst h
                exact p_iret hX hr hlk d_MO_nibbles_78
              · replace h := ifN h hc
                refine lv_iload_n hx hb d_MO_nibbles_67 rfl (lv_at hl 0 rfl) ?_
                refine lv_ldc (v := 131072) hx hb hown (hts _ (List.mem_cons_of_mem _ t_472)) d_MO_nibbles_68 ?_
                refine lv_icmp_ge (tgt := 77) hx hb d_MO_nibbles_70 (by decide) (fun hc => ?_) (fun hc => ?_)
                · replace h := ifP h hc
                  refine lv_iconst (v := (-1)) hx hb d_MO_nibbles_77 (by decide) ?_
                  subst h
                  exact p_iret hX hr hlk d_MO_nibbles_78
                · replace h := ifN h hc
                  refine lv_iconst (v := 4) hx hb d_MO_nibbles_73 (by decide) ?_
                  refine lv_goto (tgt := 78) hx hb d_MO_nibbles_74 (by decide) ?_
                  subst h
                  exact p_iret hX hr hlk d_MO_nibbles_78
            · replace h := ifN h hc
              refine lv_iconst (v := 3) hx hb d_MO_nibbles_57 (by decide) ?_
              refine lv_goto (tgt := 78) hx hb d_MO_nibbles_58 (by decide) ?_
              subst h
              exact p_iret hX hr hlk d_MO_nibbles_78
        · replace h := ifN h hc
          refine lv_iconst (v := 2) hx hb d_MO_nibbles_39 (by decide) ?_
          refine lv_goto (tgt := 78) hx hb d_MO_nibbles_40 (by decide) ?_
          subst h
          exact p_iret hX hr hlk d_MO_nibbles_78
    · replace h := ifN h hc
      refine lv_iload_n hx hb d_MO_nibbles_15 rfl (lv_at hl 0 rfl) ?_
      refine lv_bipush (v := 32) hx hb d_MO_nibbles_16 (by decide) ?_
      refine lv_icmp_ge (tgt := 25) hx hb d_MO_nibbles_18 (by decide) (fun hc => ?_) (fun hc => ?_)
      · replace h := ifP h hc
        refine lv_iload_n hx hb d_MO_nibbles_25 rfl (lv_at hl 0 rfl) ?_
        refine lv_sipush (v := 256) hx hb d_MO_nibbles_26 (by decide) ?_
        refine lv_icmp_lt (tgt := 43) hx hb d_MO_nibbles_29 (by decide) (fun hc => ?_) (fun hc => ?_)
        · replace h := ifP h hc
          refine lv_iload_n hx hb d_MO_nibbles_43 rfl (lv_at hl 0 rfl) ?_
          refine lv_sipush (v := 4096) hx hb d_MO_nibbles_44 (by decide) ?_
          refine lv_icmp_lt (tgt := 61) hx hb d_MO_nibbles_47 (by decide) (fun hc => ?_) (fun hc => ?_)
          · replace h := ifP h hc
            refine lv_iload_n hx hb d_MO_nibbles_61 rfl (lv_at hl 0 rfl) ?_
            refine lv_ldc (v := 65536) hx hb hown (hts _ (List.mem_cons_of_mem _ t_471)) d_MO_nibbles_62 ?_
            refine lv_icmp_lt (tgt := 77) hx hb d_MO_nibbles_64 (by decide) (fun hc => ?_) (fun hc => ?_)
            · replace h := ifP h hc
              refine lv_iconst (v := (-1)) hx hb d_MO_nibbles_77 (by decide) ?_
              subst h
              exact p_iret hX hr hlk d_MO_nibbles_78
            · replace h := ifN h hc
              refine lv_iload_n hx hb d_MO_nibbles_67 rfl (lv_at hl 0 rfl) ?_
              refine lv_ldc (v := 131072) hx hb hown (hts _ (List.mem_cons_of_mem _ t_472)) d_MO_nibbles_68 ?_
              refine lv_icmp_ge (tgt := 77) hx hb d_MO_nibbles_70 (by decide) (fun hc => ?_) (fun hc => ?_)
              · replace h := ifP h hc
                refine lv_iconst (v := (-1)) hx hb d_MO_nibbles_77 (by decide) ?_
                subst h
                exact p_iret hX hr hlk d_MO_nibbles_78
              · replace h := ifN h hc
                refine lv_iconst (v := 4) hx hb d_MO_nibbles_73 (by decide) ?_
                refine lv_goto (tgt := 78) hx hb d_MO_nibbles_74 (by decide) ?_
                subst h
                exact p_iret hX hr hlk d_MO_nibbles_78
          · replace h := ifN h hc
            refine lv_iload_n hx hb d_MO_nibbles_50 rfl (lv_at hl 0 rfl) ?_
            refine lv_sipush (v := 8192) hx hb d_MO_nibbles_51 (by decide) ?_
            refine lv_icmp_ge (tgt := 61) hx hb d_MO_nibbles_54 (by decide) (fun hc => ?_) (fun hc => ?_)
            · replace h := ifP h hc
              refine lv_iload_n hx hb d_MO_nibbles_61 rfl (lv_at hl 0 rfl) ?_
              refine lv_ldc (v := 65536) hx hb hown (hts _ (List.mem_cons_of_mem _ t_471)) d_MO_nibbles_62 ?_
              refine lv_icmp_lt (tgt := 77) hx hb d_MO_nibbles_64 (by decide) (fun hc => ?_) (fun hc => ?_)
              · replace h := ifP h hc
                refine lv_iconst (v := (-1)) hx hb d_MO_nibbles_77 (by decide) ?_
                subst h
                exact p_iret hX hr hlk d_MO_nibbles_78
              · replace h := ifN h hc
                refine lv_iload_n hx hb d_MO_nibbles_67 rfl (lv_at hl 0 rfl) ?_
                refine lv_ldc (v := 131072) hx hb hown (hts _ (List.mem_cons_of_mem _ t_472)) d_MO_nibbles_68 ?_
                refine lv_icmp_ge (tgt := 77) hx hb d_MO_nibbles_70 (by decide) (fun hc => ?_) (fun hc => ?_)
                · replace h := ifP h hc
                  refine lv_iconst (v := (-1)) hx hb d_MO_nibbles_77 (by decide) ?_
                  subst h
                  exact p_iret hX hr hlk d_MO_nibbles_78
                · replace h := ifN h hc
                  refine lv_iconst (v := 4) hx hb d_MO_nibbles_73 (by decide) ?_
                  refine lv_goto (tgt := 78) hx hb d_MO_nibbles_74 (by decide) ?_
                  subst h
                  exact p_iret hX hr hlk d_MO_nibbles_78
            · replace h := ifN h hc
              refine lv_iconst (v := 3) hx hb d_MO_nibbles_57 (by decide) ?_
              refine lv_goto (tgt := 78) hx hb d_MO_nibbles_58 (by decide) ?_
              subst h
              exact p_iret hX hr hlk d_MO_nibbles_78
        · replace h := ifN h hc
          refine lv_iload_n hx hb d_MO_nibbles_32 rfl (lv_at hl 0 rfl) ?_
          refine lv_sipush (v := 512) hx hb d_MO_nibbles_33 (by decide) ?_
          refine lv_icmp_ge (tgt := 43) hx hb d_MO_nibbles_36 (by decide) (fun hc => ?_) (fun hc => ?_)
          · replace h := ifP h hc
            refine lv_iload_n hx hb d_MO_nibbles_43 rfl (lv_at hl 0 rfl) ?_
            refine lv_sipush (v := 4096) hx hb d_MO_nibbles_44 (by decide) ?_
            refine lv_icmp_lt (tgt := 61) hx hb d_MO_nibbles_47 (by decide) (fun hc => ?_) (fun hc => ?_)
            · replace h := ifP h hc
              refine lv_iload_n hx hb d_MO_nibbles_61 rfl (lv_at hl 0 rfl) ?_
              refine lv_ldc (v := 65536) hx hb hown (hts _ (List.mem_cons_of_mem _ t_471)) d_MO_nibbles_62 ?_
              refine lv_icmp_lt (tgt := 77) hx hb d_MO_nibbles_64 (by decide) (fun hc => ?_) (fun hc => ?_)
              · replace h := ifP h hc
                refine lv_iconst (v := (-1)) hx hb d_MO_nibbles_77 (by decide) ?_
                subst h
                exact p_iret hX hr hlk d_MO_nibbles_78
              · replace h := ifN h hc
                refine lv_iload_n hx hb d_MO_nibbles_67 rfl (lv_at hl 0 rfl) ?_
                refine lv_ldc (v := 131072) hx hb hown (hts _ (List.mem_cons_of_mem _ t_472)) d_MO_nibbles_68 ?_
                refine lv_icmp_ge (tgt := 77) hx hb d_MO_nibbles_70 (by decide) (fun hc => ?_) (fun hc => ?_)
                · replace h := ifP h hc
                  refine lv_iconst (v := (-1)) hx hb d_MO_nibbles_77 (by decide) ?_
                  subst h
                  exact p_iret hX hr hlk d_MO_nibbles_78
                · replace h := ifN h hc
                  refine lv_iconst (v := 4) hx hb d_MO_nibbles_73 (by decide) ?_
                  refine lv_goto (tgt := 78) hx hb d_MO_nibbles_74 (by decide) ?_
                  subst h
                  exact p_iret hX hr hlk d_MO_nibbles_78
            · replace h := ifN h hc
              refine lv_iload_n hx hb d_MO_nibbles_50 rfl (lv_at hl 0 rfl) ?_
              refine lv_sipush (v := 8192) hx hb d_MO_nibbles_51 (by decide) ?_
              refine lv_icmp_ge (tgt := 61) hx hb d_MO_nibbles_54 (by decide) (fun hc => ?_) (fun hc => ?_)
              · replace h := ifP h hc
                refine lv_iload_n hx hb d_MO_nibbles_61 rfl (lv_at hl 0 rfl) ?_
                refine lv_ldc (v := 65536) hx hb hown (hts _ (List.mem_cons_of_mem _ t_471)) d_MO_nibbles_62 ?_
                refine lv_icmp_lt (tgt := 77) hx hb d_MO_nibbles_64 (by decide) (fun hc => ?_) (fun hc => ?_)
                · replace h := ifP h hc
                  refine lv_iconst (v := (-1)) hx hb d_MO_nibbles_77 (by decide) ?_
                  subst h
                  exact p_iret hX hr hlk d_MO_nibbles_78
                · replace h := ifN h hc
                  refine lv_iload_n hx hb d_MO_nibbles_67 rfl (lv_at hl 0 rfl) ?_
                  refine lv_ldc (v := 131072) hx hb hown (hts _ (List.mem_cons_of_mem _ t_472)) d_MO_nibbles_68 ?_
                  refine lv_icmp_ge (tgt := 77) hx hb d_MO_nibbles_70 (by decide) (fun hc => ?_) (fun hc => ?_)
                  · replace h := ifP h hc
                    refine lv_iconst (v := (-1)) hx hb d_MO_nibbles_77 (by decide) ?_
                    subst h
                    exact p_iret hX hr hlk d_MO_nibbles_78
                  · replace h := ifN h hc
                    refine lv_iconst (v := 4) hx hb d_MO_nibbles_73 (by decide) ?_
                    refine lv_goto (tgt := 78) hx hb d_MO_nibbles_74 (by decide) ?_
                    subst h
                    exact p_iret hX hr hlk d_MO_nibbles_78
              · replace h := ifN h hc
                refine lv_iconst (v := 3) hx hb d_MO_nibbles_57 (by decide) ?_
                refine lv_goto (tgt := 78) hx hb d_MO_nibbles_58 (by decide) ?_
                subst h
                exact p_iret hX hr hlk d_MO_nibbles_78
          · replace h := ifN h hc
            refine lv_iconst (v := 2) hx hb d_MO_nibbles_39 (by decide) ?_
            refine lv_goto (tgt := 78) hx hb d_MO_nibbles_40 (by decide) ?_
            subst h
            exact p_iret hX hr hlk d_MO_nibbles_78
      · replace h := ifN h hc
        refine lv_iconst (v := 1) hx hb d_MO_nibbles_21 (by decide) ?_
        refine lv_goto (tgt := 78) hx hb d_MO_nibbles_22 (by decide) ?_
        subst h
        exact p_iret hX hr hlk d_MO_nibbles_78
  · replace h := ifP h hc
    refine lv_iconst (v := 0) hx hb d_MO_nibbles_5 (by decide) ?_
    refine lv_goto (tgt := 78) hx hb d_MO_nibbles_6 (by decide) ?_
    subst h
    exact p_iret hX hr hlk d_MO_nibbles_78
set_option maxHeartbeats 4000000 in
set_option maxRecDepth 100000 in
theorem m_MO_begins (l : Launch) {out : Int32} (v0 : Int32) (v1 : Int32) (h : f_MO_begins v0 v1 = out) : Met l y_MO_begins w_MO_begins rm_MO_begins (fun v _ => v = [.int v0, .int v1].toArray) (PZ out) 0 0 (fun _ => False) := by
  refine Met.ofW (cc := b_MO_begins) (maxL := 3) (ret := (some .boolean)) (by decide) rfl ?_
  intro p e s m av below meth c s₁ B hml hv
  subst hv
  have hX : CallFix p m c b_MO_begins 3 s _ w_MO_begins "NibbleTrieModel" := ⟨B.exec, B.bytes, hml, findClass_of_methodNamed B.named, atoms_spec (ws := w_MO_begins) B.pre⟩
  have hx := hX.1
  have hb := hX.2.1
  have hown := hX.2.2.2.1
  have hts := hX.2.2.2.2
  have hr := B.returns
  have hlk := B.notSynchronized
  have hl := lv_entry ([.int v0, .int v1]) (n := 3) (Nat.le_of_ble_eq_true rfl)
  rw [lg_entry_eq]
  generalize (lg_sl ([.int v0, .int v1]) ++ List.replicate (3 - (lg_sl ([.int v0, .int v1])).length) Slot.unset).toArray = ls at hl ⊢
  have hl : lv_has ls 3 [(0, .int v0), (1, .int v1)] := hl
  unfold f_MO_begins at h
  refine lv_iload_n hx hb d_MO_begins_0 rfl (lv_at hl 0 rfl) ?_
  refine kp_i (va_runS (As := [.int v0]) (rest := []) hX (m_MO_nibbles l  v0 rfl) (cb_MO_nibbles hts t_468 ⟨Nat.le_of_ble_eq_true rfl, Nat.le_of_ble_eq_true rfl⟩) preEq rfl rfl hl.1 rfl (lv_room (Nat.le_of_ble_eq_true rfl)) d_MO_begins_1 ⟨Nat.zero_le _, Nat.zero_le _⟩) ?_
  refine lv_iload_n hx hb d_MO_begins_4 rfl (lv_at hl 1 rfl) ?_
  refine kp_i (va_runS (As := [.int v1]) (rest := [.int (f_MO_nibbles v0)]) hX (m_MO_nibbles l  v1 rfl) (cb_MO_nibbles hts t_468 ⟨Nat.le_of_ble_eq_true rfl, Nat.le_of_ble_eq_true rfl⟩) preEq rfl rfl hl.1 rfl (lv_room (Nat.le_of_ble_eq_true rfl)) d_MO_begins_5 ⟨Nat.zero_le _, Nat.zero_le _⟩) ?_
  refine lv_isub hx hb d_MO_begins_8 ?_
  refine lv_topi (fun x1 ex1 => ?_)
  replace h := stA h ex1
  refine lv_istore_n (lv' := [(2, .int x1), (0, .int v0), (1, .int v1)]) hx hb d_MO_begins_9 rfl hl (by decide) rfl (fun ls hl => ?_)
  refine lv_iload_n hx hb d_MO_begins_10 rfl (lv_at hl 0 rfl) ?_
  refine lv_if_lt (tgt := 27) hx hb d_MO_begins_11 (by decide) (fun hc => ?_) (fun hc => ?_)
  · replace h := ifP h hc
    refine lv_iconst (v := 0) hx hb d_MO_begins_27 (by decide) ?_
    subst h
    exact p_zret hX hr hlk (Or.inl rfl) d_MO_begins_28
  · replace h := ifN h hc
    refine lv_iload_n hx hb d_MO_begins_14 rfl (lv_at hl 1 rfl) ?_
    refine lv_iconst (v := 4) hx hb d_MO_begins_15 (by decide) ?_
    refine lv_iload_n hx hb d_MO_begins_16 rfl (lv_at hl 0 rfl) ?_
    refine lv_imul hx hb d_MO_begins_17 ?_
    refine lv_ishr hx hb d_MO_begins_18 ?_
    refine lv_iload_n hx hb d_MO_begins_19 rfl (lv_at hl 2 rfl) ?_
    refine lv_icmp_ne (tgt := 27) hx hb d_MO_begins_20 (by decide) (fun hc => ?_) (fun hc => ?_)
    · replace h := ifN h hc
      refine lv_iconst (v := 0) hx hb d_MO_begins_27 (by decide) ?_
      subst h
      exact p_zret hX hr hlk (Or.inl rfl) d_MO_begins_28
    · replace h := ifP h hc
      refine lv_iconst (v := 1) hx hb d_MO_begins_23 (by decide) ?_
      refine lv_goto (tgt := 28) hx hb d_MO_begins_24 (by decide) ?_
      subst h
      exact p_zret hX hr hlk (Or.inr rfl) d_MO_begins_28
set_option maxHeartbeats 4000000 in
set_option maxRecDepth 100000 in
theorem m_MO_behind (l : Launch) {out : Int32} (v0 : Int32) (v1 : Int32) (h : f_MO_behind v0 v1 = out) : Met l y_MO_behind w_MO_behind rm_MO_behind (fun v _ => v = [.int v0, .int v1].toArray) (PI out) 0 0 (fun _ => False) := by
  refine Met.ofW (cc := b_MO_behind) (maxL := 3) (ret := (some .int)) (by decide) rfl ?_
  intro p e s m av below meth c s₁ B hml hv
  subst hv
  have hX : CallFix p m c b_MO_behind 3 s _ w_MO_behind "NibbleTrieModel" := ⟨B.exec, B.bytes, hml, findClass_of_methodNamed B.named, atoms_spec (ws := w_MO_behind) B.pre⟩
  have hx := hX.1
  have hb := hX.2.1
  have hown := hX.2.2.2.1
  have hts := hX.2.2.2.2
  have hr := B.returns
  have hlk := B.notSynchronized
  have hl := lv_entry ([.int v0, .int v1]) (n := 3) (Nat.le_of_ble_eq_true rfl)
  rw [lg_entry_eq]
  generalize (lg_sl ([.int v0, .int v1]) ++ List.replicate (3 - (lg_sl ([.int v0, .int v1])).length) Slot.unset).toArray = ls at hl ⊢
  have hl : lv_has ls 3 [(0, .int v0), (1, .int v1)] := hl
  unfold f_MO_behind at h
  refine lv_iconst (v := 4) hx hb d_MO_behind_0 (by decide) ?_
  refine lv_iload_n hx hb d_MO_behind_1 rfl (lv_at hl 0 rfl) ?_
  refine kp_i (va_runS (As := [.int v0]) (rest := [.int 4]) hX (m_MO_nibbles l  v0 rfl) (cb_MO_nibbles hts t_468 ⟨Nat.le_of_ble_eq_true rfl, Nat.le_of_ble_eq_true rfl⟩) preEq rfl rfl hl.1 rfl (lv_room (Nat.le_of_ble_eq_true rfl)) d_MO_behind_2 ⟨Nat.zero_le _, Nat.zero_le _⟩) ?_
  refine lv_iload_n hx hb d_MO_behind_5 rfl (lv_at hl 1 rfl) ?_
  refine kp_i (va_runS (As := [.int v1]) (rest := [.int (f_MO_nibbles v0), .int 4]) hX (m_MO_nibbles l  v1 rfl) (cb_MO_nibbles hts t_468 ⟨Nat.le_of_ble_eq_true rfl, Nat.le_of_ble_eq_true rfl⟩) preEq rfl rfl hl.1 rfl (lv_room (Nat.le_of_ble_eq_true rfl)) d_MO_behind_6 ⟨Nat.zero_le _, Nat.zero_le _⟩) ?_
  refine lv_isub hx hb d_MO_behind_9 ?_
  refine lv_imul hx hb d_MO_behind_10 ?_
  refine lv_topi (fun x1 ex1 => ?_)
  replace h := stA h ex1
  refine lv_istore_n (lv' := [(2, .int x1), (0, .int v0), (1, .int v1)]) hx hb d_MO_behind_11 rfl hl (by decide) rfl (fun ls hl => ?_)
  refine lv_iload_n hx hb d_MO_behind_12 rfl (lv_at hl 1 rfl) ?_
  refine lv_iload_n hx hb d_MO_behind_13 rfl (lv_at hl 2 rfl) ?_
  refine lv_iload_n hx hb d_MO_behind_14 rfl (lv_at hl 0 rfl) ?_
  refine lv_ishl hx hb d_MO_behind_15 ?_
  refine lv_isub hx hb d_MO_behind_16 ?_
  refine lv_iconst (v := 1) hx hb d_MO_behind_17 (by decide) ?_
  refine lv_iload_n hx hb d_MO_behind_18 rfl (lv_at hl 0 rfl) ?_
  refine lv_ishl hx hb d_MO_behind_19 ?_
  refine lv_iadd hx hb d_MO_behind_20 ?_
  subst h
  exact p_iret hX hr hlk d_MO_behind_21
set_option maxHeartbeats 4000000 in
set_option maxRecDepth 100000 in
theorem w_MO_find_2 {p : Program} {l : Launch} {e : Env} {s : State} {m : MethodId} {args : Array Value} {below : List Frame} {meth : Method} {c : Code} {E : En} {K G : Nat → Nat} {L : List Nat} (hX : CallFix p m c b_MO_find 4 s args w_MO_find "NibbleTrieModel") (hr : meth.sig.returnType = (some .int)) (hlk : meth.locks = false) {out : Int32} : ∀ (n : Nat) (v0 : Nat) (v1 : Int32) (v2 : Int32) (v3 : Int32) (M : Mm) (H : Heap) (locs : List Loc) (ls : Array Slot), K v0 = 9 → lv_has ls 4 [(0, .ref v0), (1, .int v1), (2, .int v2), (3, .int v3)] → Wd E K G L M s.heap H locs s → f_MO_find_2 G n v0 v1 v2 v3 M = some out → W p l e rm_MO_find s m args below meth c H locs 0 0 (MQ below (QI E K G L s.heap.size out M) args s 0 0 (AL L s.heap.size)) (F0 m 2 ls []) := by
  have hx := hX.1
  have hb := hX.2.1
  have hown := hX.2.2.2.1
  have hts := hX.2.2.2.2
  intro n
  induction n with
  | zero => intro _ _ _ _ _ _ _ _ _ _ _ h; rw [f_MO_find_2] at h; cases h
  | succ n ih =>
    intro v0 v1 v2 v3 M H locs ls hv0 hl hWd h
    rw [f_MO_find_2] at h
    refine lv_iload_n hx hb d_MO_find_2 rfl (lv_at hl 3 rfl) ?_
    refine lv_aload_n hx hb d_MO_find_3 rfl (lv_at hl 0 rfl) ?_
    refine g_MO_sizes hX t_414 hWd hv0 d_MO_find_4 ?_
    have q1 := v_MO_sizes hWd hv0
    refine lv_iload_n hx hb d_MO_find_7 rfl (lv_at hl 1 rfl) ?_
    obtain ⟨j2, hj2, h⟩ := ob h
    refine r_iald hX hWd q1 hj2 d_MO_find_8 ?_
    refine lv_icmp_ge (tgt := 40) hx hb d_MO_find_9 (by decide) (fun hc => ?_) (fun hc => ?_)
    · replace h := ifP h hc
      refine lv_iconst (v := (-1)) hx hb d_MO_find_40 (by decide) ?_
      obtain rfl := Option.some.inj h
      exact e_iret hX hr hlk hWd d_MO_find_41
    · replace h := ifN h hc
      refine lv_aload_n hx hb d_MO_find_12 rfl (lv_at hl 0 rfl) ?_
      refine g_MO_keys hX t_412 hWd hv0 d_MO_find_13 ?_
      have q3 := v_MO_keys hWd hv0
      refine lv_bipush (v := 16) hx hb d_MO_find_16 (by decide) ?_
      refine lv_iload_n hx hb d_MO_find_18 rfl (lv_at hl 1 rfl) ?_
      refine lv_imul hx hb d_MO_find_19 ?_
      refine lv_iload_n hx hb d_MO_find_20 rfl (lv_at hl 3 rfl) ?_
      refine lv_iadd hx hb d_MO_find_21 ?_
      obtain ⟨j4, hj4, h⟩ := ob h
      refine r_iald hX hWd q3 hj4 d_MO_find_22 ?_
      refine lv_iload_n hx hb d_MO_find_23 rfl (lv_at hl 2 rfl) ?_
      refine lv_icmp_ne (tgt := 34) hx hb d_MO_find_24 (by decide) (fun hc => ?_) (fun hc => ?_)
      · replace h := ifN h hc
        refine lv_iinc (k := 3) (v := (v3 + 1)) (lv' := [(3, .int (v3 + 1)), (0, .ref v0), (1, .int v1), (2, .int v2)]) hx hb d_MO_find_34 hl rfl (by rfl) (by decide) rfl (fun ls hl => ?_)
        refine lv_goto (tgt := 2) hx hb d_MO_find_37 (by decide) ?_
        exact ih v0 v1 v2 (v3 + 1) M _ _ _ hv0 (lv_sub hl [1, 2, 3, 0] rfl) hWd h
      · replace h := ifP h hc
        refine lv_bipush (v := 16) hx hb d_MO_find_27 (by decide) ?_
        refine lv_iload_n hx hb d_MO_find_29 rfl (lv_at hl 1 rfl) ?_
        refine lv_imul hx hb d_MO_find_30 ?_
        refine lv_iload_n hx hb d_MO_find_31 rfl (lv_at hl 3 rfl) ?_
        refine lv_iadd hx hb d_MO_find_32 ?_
        obtain rfl := Option.some.inj h
        exact e_iret hX hr hlk hWd d_MO_find_33
set_option maxHeartbeats 4000000 in
set_option maxRecDepth 100000 in
theorem m_MO_find (l : Launch) {E : En} {K G : Nat → Nat} {L : List Nat} {M : Mm} {sz : Nat} {out : Int32} (v0 : Nat) (v1 : Int32) (v2 : Int32) (hv0 : K v0 = 9) (h : f_MO_find G v0 v1 v2 M = some out) : Met l y_MO_find w_MO_find rm_MO_find (va_Pc [.ref v0, .int v1, .int v2] (Wp E K G L M sz)) (QI E K G L sz out M) 0 0 (AL L sz) := by
  refine Met.ofW (cc := b_MO_find) (maxL := 4) (ret := (some .int)) (by decide) rfl ?_
  intro p e s m av below meth c s₁ B hml hv
  obtain ⟨rfl, hWp⟩ := hv
  have hWd := Wd.start hWp
  obtain ⟨rfl, -⟩ := hWp
  have hX : CallFix p m c b_MO_find 4 s _ w_MO_find "NibbleTrieModel" := ⟨B.exec, B.bytes, hml, findClass_of_methodNamed B.named, atoms_spec (ws := w_MO_find) B.pre⟩
  have hx := hX.1
  have hb := hX.2.1
  have hown := hX.2.2.2.1
  have hts := hX.2.2.2.2
  have hr := B.returns
  have hlk := B.notSynchronized
  have hl := lv_entry ([.ref v0, .int v1, .int v2]) (n := 4) (Nat.le_of_ble_eq_true rfl)
  rw [lg_entry_eq]
  generalize (lg_sl ([.ref v0, .int v1, .int v2]) ++ List.replicate (4 - (lg_sl ([.ref v0, .int v1, .int v2])).length) Slot.unset).toArray = ls at hl ⊢
  have hl : lv_has ls 4 [(0, .ref v0), (1, .int v1), (2, .int v2)] := hl
  unfold f_MO_find at h
  refine lv_iconst (v := 0) hx hb d_MO_find_0 (by decide) ?_
  refine lv_istore_n (lv' := [(3, .int 0), (0, .ref v0), (1, .int v1), (2, .int v2)]) hx hb d_MO_find_1 rfl hl (by decide) rfl (fun ls hl => ?_)
  exact w_MO_find_2 hX hr hlk FU v0 v1 v2 0 M _ _ _ hv0 (lv_sub hl [1, 2, 3, 0] rfl) hWd h
set_option maxHeartbeats 4000000 in
set_option maxRecDepth 100000 in
theorem w_MO_copy_26 {p : Program} {l : Launch} {e : Env} {s : State} {m : MethodId} {args : Array Value} {below : List Frame} {meth : Method} {c : Code} {E : En} {K G : Nat → Nat} {L : List Nat} (hX : CallFix p m c b_MO_copy 4 s args w_MO_copy "NibbleTrieModel") (hr : meth.sig.returnType = none) (hlk : meth.locks = false) {out : Mm} : ∀ (n : Nat) (v0 : Nat) (v1 : Int32) (v2 : Int32) (v3 : Int32) (M : Mm) (H : Heap) (locs : List Loc) (ls : Array Slot), K v0 = 9 → lv_has ls 4 [(0, .ref v0), (1, .int v1), (2, .int v2), (3, .int v3)] → Wd E K G L M s.heap H locs s → f_MO_copy_26 G n v0 v1 v2 v3 M = some out → W p l e rm_MO_copy s m args below meth c H locs 0 0 (MQ below (QV E K G L s.heap.size out) args s 0 0 (AL L s.heap.size)) (F0 m 26 ls []) := by
  have hx := hX.1
  have hb := hX.2.1
  have hown := hX.2.2.2.1
  have hts := hX.2.2.2.2
  intro n
  induction n with
  | zero => intro _ _ _ _ _ _ _ _ _ _ _ h; rw [f_MO_copy_26] at h; cases h
  | succ n ih =>
    intro v0 v1 v2 v3 M H locs ls hv0 hl hWd h
    rw [f_MO_copy_26] at h
    refine lv_iload_n hx hb d_MO_copy_26 rfl (lv_at hl 3 rfl) ?_
    refine lv_bipush (v := 16) hx hb d_MO_copy_27 (by decide) ?_
    refine lv_icmp_ge (tgt := 126) hx hb d_MO_copy_29 (by decide) (fun hc => ?_) (fun hc => ?_)
    · replace h := ifP h hc
      obtain rfl := Option.some.inj h
      exact e_vret hX hr hlk hWd d_MO_copy_126
    · replace h := ifN h hc
      refine lv_aload_n hx hb d_MO_copy_32 rfl (lv_at hl 0 rfl) ?_
      refine g_MO_keys hX t_412 hWd hv0 d_MO_copy_33 ?_
      have q1 := v_MO_keys hWd hv0
      refine lv_bipush (v := 16) hx hb d_MO_copy_36 (by decide) ?_
      refine lv_iload_n hx hb d_MO_copy_38 rfl (lv_at hl 2 rfl) ?_
      refine lv_imul hx hb d_MO_copy_39 ?_
      refine lv_iload_n hx hb d_MO_copy_40 rfl (lv_at hl 3 rfl) ?_
      refine lv_iadd hx hb d_MO_copy_41 ?_
      refine lv_aload_n hx hb d_MO_copy_42 rfl (lv_at hl 0 rfl) ?_
      refine g_MO_keys hX t_412 hWd hv0 d_MO_copy_43 ?_
      have q2 := v_MO_keys hWd hv0
      refine lv_bipush (v := 16) hx hb d_MO_copy_46 (by decide) ?_
      refine lv_iload_n hx hb d_MO_copy_48 rfl (lv_at hl 1 rfl) ?_
      refine lv_imul hx hb d_MO_copy_49 ?_
      refine lv_iload_n hx hb d_MO_copy_50 rfl (lv_at hl 3 rfl) ?_
      refine lv_iadd hx hb d_MO_copy_51 ?_
      obtain ⟨j3, hj3, h⟩ := ob h
      refine r_iald hX hWd q2 hj3 d_MO_copy_52 ?_
      obtain ⟨j4, hj4, h⟩ := ob h
      refine r_iast hX hWd q1 hj4 d_MO_copy_53 (fun H locs hWd => ?_)
      obtain ⟨M5, eM5, h⟩ := stE h
      rw [← eM5] at hWd
      refine lv_aload_n hx hb d_MO_copy_54 rfl (lv_at hl 0 rfl) ?_
      refine g_MO_values hX t_413 hWd hv0 d_MO_copy_55 ?_
      have q6 := v_MO_values hWd hv0
      refine lv_bipush (v := 16) hx hb d_MO_copy_58 (by decide) ?_
      refine lv_iload_n hx hb d_MO_copy_60 rfl (lv_at hl 2 rfl) ?_
      refine lv_imul hx hb d_MO_copy_61 ?_
      refine lv_iload_n hx hb d_MO_copy_62 rfl (lv_at hl 3 rfl) ?_
      refine lv_iadd hx hb d_MO_copy_63 ?_
      refine lv_aload_n hx hb d_MO_copy_64 rfl (lv_at hl 0 rfl) ?_
      refine g_MO_values hX t_413 hWd hv0 d_MO_copy_65 ?_
      have q7 := v_MO_values hWd hv0
      refine lv_bipush (v := 16) hx hb d_MO_copy_68 (by decide) ?_
      refine lv_iload_n hx hb d_MO_copy_70 rfl (lv_at hl 1 rfl) ?_
      refine lv_imul hx hb d_MO_copy_71 ?_
      refine lv_iload_n hx hb d_MO_copy_72 rfl (lv_at hl 3 rfl) ?_
      refine lv_iadd hx hb d_MO_copy_73 ?_
      obtain ⟨j8, hj8, h⟩ := ob h
      refine r_iald hX hWd q7 hj8 d_MO_copy_74 ?_
      obtain ⟨j9, hj9, h⟩ := ob h
      refine r_iast hX hWd q6 hj9 d_MO_copy_75 (fun H locs hWd => ?_)
      obtain ⟨M10, eM10, h⟩ := stE h
      rw [← eM10] at hWd
      refine lv_aload_n hx hb d_MO_copy_76 rfl (lv_at hl 0 rfl) ?_
      refine g_MO_branch hX t_417 hWd hv0 d_MO_copy_77 ?_
      have q11 := v_MO_branch hWd hv0
      refine lv_bipush (v := 16) hx hb d_MO_copy_80 (by decide) ?_
      refine lv_iload_n hx hb d_MO_copy_82 rfl (lv_at hl 2 rfl) ?_
      refine lv_imul hx hb d_MO_copy_83 ?_
      refine lv_iload_n hx hb d_MO_copy_84 rfl (lv_at hl 3 rfl) ?_
      refine lv_iadd hx hb d_MO_copy_85 ?_
      refine lv_aload_n hx hb d_MO_copy_86 rfl (lv_at hl 0 rfl) ?_
      refine g_MO_branch hX t_417 hWd hv0 d_MO_copy_87 ?_
      have q12 := v_MO_branch hWd hv0
      refine lv_bipush (v := 16) hx hb d_MO_copy_90 (by decide) ?_
      refine lv_iload_n hx hb d_MO_copy_92 rfl (lv_at hl 1 rfl) ?_
      refine lv_imul hx hb d_MO_copy_93 ?_
      refine lv_iload_n hx hb d_MO_copy_94 rfl (lv_at hl 3 rfl) ?_
      refine lv_iadd hx hb d_MO_copy_95 ?_
      obtain ⟨j13, hj13, h⟩ := ob h
      refine r_iald hX hWd q12 hj13 d_MO_copy_96 ?_
      obtain ⟨j14, hj14, h⟩ := ob h
      refine r_iast hX hWd q11 hj14 d_MO_copy_97 (fun H locs hWd => ?_)
      obtain ⟨M15, eM15, h⟩ := stE h
      rw [← eM15] at hWd
      refine lv_aload_n hx hb d_MO_copy_98 rfl (lv_at hl 0 rfl) ?_
      refine g_MO_digest hX t_418 hWd hv0 d_MO_copy_99 ?_
      have q16 := v_MO_digest hWd hv0
      refine lv_bipush (v := 16) hx hb d_MO_copy_102 (by decide) ?_
      refine lv_iload_n hx hb d_MO_copy_104 rfl (lv_at hl 2 rfl) ?_
      refine lv_imul hx hb d_MO_copy_105 ?_
      refine lv_iload_n hx hb d_MO_copy_106 rfl (lv_at hl 3 rfl) ?_
      refine lv_iadd hx hb d_MO_copy_107 ?_
      refine lv_aload_n hx hb d_MO_copy_108 rfl (lv_at hl 0 rfl) ?_
      refine g_MO_digest hX t_418 hWd hv0 d_MO_copy_109 ?_
      have q17 := v_MO_digest hWd hv0
      refine lv_bipush (v := 16) hx hb d_MO_copy_112 (by decide) ?_
      refine lv_iload_n hx hb d_MO_copy_114 rfl (lv_at hl 1 rfl) ?_
      refine lv_imul hx hb d_MO_copy_115 ?_
      refine lv_iload_n hx hb d_MO_copy_116 rfl (lv_at hl 3 rfl) ?_
      refine lv_iadd hx hb d_MO_copy_117 ?_
      obtain ⟨j18, hj18, h⟩ := ob h
      refine r_lald hX hWd q17 hj18 d_MO_copy_118 ?_
      obtain ⟨j19, hj19, h⟩ := ob h
      refine r_last hX hWd q16 hj19 d_MO_copy_119 (fun H locs hWd => ?_)
      obtain ⟨M20, eM20, h⟩ := stE h
      rw [← eM20] at hWd
      refine lv_iinc (k := 3) (v := (v3 + 1)) (lv' := [(3, .int (v3 + 1)), (0, .ref v0), (1, .int v1), (2, .int v2)]) hx hb d_MO_copy_120 hl rfl (by rfl) (by decide) rfl (fun ls hl => ?_)
      refine lv_goto (tgt := 26) hx hb d_MO_copy_123 (by decide) ?_
      exact ih v0 v1 v2 (v3 + 1) M20 _ _ _ hv0 (lv_sub hl [1, 2, 3, 0] rfl) hWd h
set_option maxHeartbeats 4000000 in
set_option maxRecDepth 100000 in
theorem m_MO_copy (l : Launch) {E : En} {K G : Nat → Nat} {L : List Nat} {M : Mm} {sz : Nat} {out : Mm} (v0 : Nat) (v1 : Int32) (v2 : Int32) (hv0 : K v0 = 9) (h : f_MO_copy G v0 v1 v2 M = some out) : Met l y_MO_copy w_MO_copy rm_MO_copy (va_Pc [.ref v0, .int v1, .int v2] (Wp E K G L M sz)) (QV E K G L sz out) 0 0 (AL L sz) := by
  refine Met.ofW (cc := b_MO_copy) (maxL := 4) (ret := none) (by decide) rfl ?_
  intro p e s m av below meth c s₁ B hml hv
  obtain ⟨rfl, hWp⟩ := hv
  have hWd := Wd.start hWp
  obtain ⟨rfl, -⟩ := hWp
  have hX : CallFix p m c b_MO_copy 4 s _ w_MO_copy "NibbleTrieModel" := ⟨B.exec, B.bytes, hml, findClass_of_methodNamed B.named, atoms_spec (ws := w_MO_copy) B.pre⟩
  have hx := hX.1
  have hb := hX.2.1
  have hown := hX.2.2.2.1
  have hts := hX.2.2.2.2
  have hr := B.returns
  have hlk := B.notSynchronized
  have hl := lv_entry ([.ref v0, .int v1, .int v2]) (n := 4) (Nat.le_of_ble_eq_true rfl)
  rw [lg_entry_eq]
  generalize (lg_sl ([.ref v0, .int v1, .int v2]) ++ List.replicate (4 - (lg_sl ([.ref v0, .int v1, .int v2])).length) Slot.unset).toArray = ls at hl ⊢
  have hl : lv_has ls 4 [(0, .ref v0), (1, .int v1), (2, .int v2)] := hl
  unfold f_MO_copy at h
  refine lv_aload_n hx hb d_MO_copy_0 rfl (lv_at hl 0 rfl) ?_
  refine g_MO_sizes hX t_414 hWd hv0 d_MO_copy_1 ?_
  have q1 := v_MO_sizes hWd hv0
  refine lv_iload_n hx hb d_MO_copy_4 rfl (lv_at hl 2 rfl) ?_
  refine lv_aload_n hx hb d_MO_copy_5 rfl (lv_at hl 0 rfl) ?_
  refine g_MO_sizes hX t_414 hWd hv0 d_MO_copy_6 ?_
  have q2 := v_MO_sizes hWd hv0
  refine lv_iload_n hx hb d_MO_copy_9 rfl (lv_at hl 1 rfl) ?_
  obtain ⟨j3, hj3, h⟩ := ob h
  refine r_iald hX hWd q2 hj3 d_MO_copy_10 ?_
  obtain ⟨j4, hj4, h⟩ := ob h
  refine r_iast hX hWd q1 hj4 d_MO_copy_11 (fun H locs hWd => ?_)
  obtain ⟨M5, eM5, h⟩ := stE h
  rw [← eM5] at hWd
  refine lv_aload_n hx hb d_MO_copy_12 rfl (lv_at hl 0 rfl) ?_
  refine g_MO_branches hX t_419 hWd hv0 d_MO_copy_13 ?_
  have q6 := v_MO_branches hWd hv0
  refine lv_iload_n hx hb d_MO_copy_16 rfl (lv_at hl 2 rfl) ?_
  refine lv_aload_n hx hb d_MO_copy_17 rfl (lv_at hl 0 rfl) ?_
  refine g_MO_branches hX t_419 hWd hv0 d_MO_copy_18 ?_
  have q7 := v_MO_branches hWd hv0
  refine lv_iload_n hx hb d_MO_copy_21 rfl (lv_at hl 1 rfl) ?_
  obtain ⟨j8, hj8, h⟩ := ob h
  refine r_iald hX hWd q7 hj8 d_MO_copy_22 ?_
  obtain ⟨j9, hj9, h⟩ := ob h
  refine r_iast hX hWd q6 hj9 d_MO_copy_23 (fun H locs hWd => ?_)
  obtain ⟨M10, eM10, h⟩ := stE h
  rw [← eM10] at hWd
  refine lv_iconst (v := 0) hx hb d_MO_copy_24 (by decide) ?_
  refine lv_istore_n (lv' := [(3, .int 0), (0, .ref v0), (1, .int v1), (2, .int v2)]) hx hb d_MO_copy_25 rfl hl (by decide) rfl (fun ls hl => ?_)
  exact w_MO_copy_26 hX hr hlk FU v0 v1 v2 0 M10 _ _ _ hv0 (lv_sub hl [1, 2, 3, 0] rfl) hWd h
set_option maxHeartbeats 4000000 in
set_option maxRecDepth 100000 in
theorem m_MO_put (l : Launch) {E : En} {K G : Nat → Nat} {L : List Nat} {M : Mm} {sz : Nat} {out : Int32 × Mm} (v0 : Nat) (v1 : Int32) (v2 : Int32) (hv0 : K v0 = 9) (h : f_MO_put G v0 v1 v2 M = some out) : Met l y_MO_put w_MO_put rm_MO_put (va_Pc [.ref v0, .int v1, .int v2] (Wp E K G L M sz)) (QI E K G L sz out.1 out.2) 0 0 (AL L sz) := by
  refine Met.ofW (cc := b_MO_put) (maxL := 5) (ret := (some .int)) (by decide) rfl ?_
  intro p e s m av below meth c s₁ B hml hv
  obtain ⟨rfl, hWp⟩ := hv
  have hWd := Wd.start hWp
  obtain ⟨rfl, -⟩ := hWp
  have hX : CallFix p m c b_MO_put 5 s _ w_MO_put "NibbleTrieModel" := ⟨B.exec, B.bytes, hml, findClass_of_methodNamed B.named, atoms_spec (ws := w_MO_put) B.pre⟩
  have hx := hX.1
  have hb := hX.2.1
  have hown := hX.2.2.2.1
  have hts := hX.2.2.2.2
  have hr := B.returns
  have hlk := B.notSynchronized
  have hl := lv_entry ([.ref v0, .int v1, .int v2]) (n := 5) (Nat.le_of_ble_eq_true rfl)
  rw [lg_entry_eq]
  generalize (lg_sl ([.ref v0, .int v1, .int v2]) ++ List.replicate (5 - (lg_sl ([.ref v0, .int v1, .int v2])).length) Slot.unset).toArray = ls at hl ⊢
  have hl : lv_has ls 5 [(0, .ref v0), (1, .int v1), (2, .int v2)] := hl
  unfold f_MO_put at h
  refine lv_iload_n hx hb d_MO_put_0 rfl (lv_at hl 1 rfl) ?_
  refine kp_i (va_runS (As := [.int v1]) (rest := []) hX (m_MO_nibbles l  v1 rfl) (cb_MO_nibbles hts t_468 ⟨Nat.le_of_ble_eq_true rfl, Nat.le_of_ble_eq_true rfl⟩) preEq rfl rfl hl.1 rfl (lv_room (Nat.le_of_ble_eq_true rfl)) d_MO_put_1 ⟨Nat.zero_le _, Nat.zero_le _⟩) ?_
  refine lv_if_ge (tgt := 9) hx hb d_MO_put_4 (by decide) (fun hc => ?_) (fun hc => ?_)
  · replace h := ifP h hc
    refine lv_aload_n hx hb d_MO_put_9 rfl (lv_at hl 0 rfl) ?_
    refine lv_iconst (v := 0) hx hb d_MO_put_10 (by decide) ?_
    refine lv_iload_n hx hb d_MO_put_11 rfl (lv_at hl 1 rfl) ?_
    obtain ⟨q1, hq1, h⟩ := ob h
    refine kc_i (va_runV (As := [.int 0, .int v1]) (rest := []) hX (m_MO_find l  v0 0 v1 hv0 hq1) (cb_MO_find hts t_473 ⟨Nat.le_of_ble_eq_true rfl, Nat.le_of_ble_eq_true rfl⟩) (pv_MO hWd hv0) rfl rfl hl.1 rfl (lv_room (Nat.le_of_ble_eq_true rfl)) d_MO_put_12 ⟨Nat.zero_le _, Nat.zero_le _⟩) hWd (fun H locs hWd => ?_)
    refine lv_istore_n (lv' := [(3, .int q1), (0, .ref v0), (1, .int v1), (2, .int v2)]) hx hb d_MO_put_15 rfl hl (by decide) rfl (fun ls hl => ?_)
    refine lv_iload_n hx hb d_MO_put_16 rfl (lv_at hl 0 rfl) ?_
    refine lv_if_ge (tgt := 24) hx hb d_MO_put_17 (by decide) (fun hc => ?_) (fun hc => ?_)
    · replace h := ifP h hc
      refine lv_aload_n hx hb d_MO_put_24 rfl (lv_at hl 1 rfl) ?_
      refine g_MO_values hX t_413 hWd hv0 d_MO_put_25 ?_
      have q2 := v_MO_values hWd hv0
      refine lv_iload_n hx hb d_MO_put_28 rfl (lv_at hl 0 rfl) ?_
      obtain ⟨j3, hj3, h⟩ := ob h
      refine r_iald hX hWd q2 hj3 d_MO_put_29 ?_
      refine lv_topi (fun x4 ex4 => ?_)
      replace h := stA h ex4
      refine lv_istore (lv' := [(4, .int x4), (3, .int q1), (0, .ref v0), (1, .int v1), (2, .int v2)]) hx hb d_MO_put_30 hl (by decide) rfl (fun ls hl => ?_)
      refine lv_iload_n hx hb d_MO_put_32 rfl (lv_at hl 1 rfl) ?_
      refine lv_if_lt (tgt := 87) hx hb d_MO_put_33 (by decide) (fun hc => ?_) (fun hc => ?_)
      · replace h := ifP h hc
        refine lv_iload_n hx hb d_MO_put_87 rfl (lv_at hl 1 rfl) ?_
        refine lv_if_lt (tgt := 101) hx hb d_MO_put_88 (by decide) (fun hc => ?_) (fun hc => ?_)
        · replace h := ifP h hc
          refine lv_iload_n hx hb d_MO_put_101 rfl (lv_at hl 4 rfl) ?_
          refine lv_if_eq (tgt := 150) hx hb d_MO_put_102 (by decide) (fun hc => ?_) (fun hc => ?_)
          · replace h := ifP h hc
            refine lv_iload hx hb d_MO_put_150 (lv_at hl 0 rfl) ?_
            obtain rfl := Option.some.inj h
            exact e_iret hX hr hlk hWd d_MO_put_152
          · replace h := ifN h hc
            refine lv_aload_n hx hb d_MO_put_105 rfl (lv_at hl 2 rfl) ?_
            refine g_MO_sizes hX t_414 hWd hv0 d_MO_put_106 ?_
            have q5 := v_MO_sizes hWd hv0
            refine lv_iconst (v := 0) hx hb d_MO_put_109 (by decide) ?_
            obtain ⟨j6, hj6, h⟩ := ob h
            refine r_iald hX hWd q5 hj6 d_MO_put_110 ?_
            refine lv_bipush (v := 16) hx hb d_MO_put_111 (by decide) ?_
            refine lv_icmp_ge (tgt := 150) hx hb d_MO_put_113 (by decide) (fun hc => ?_) (fun hc => ?_)
            · replace h := ifP h hc
              refine lv_iload hx hb d_MO_put_150 (lv_at hl 0 rfl) ?_
              obtain rfl := Option.some.inj h
              exact e_iret hX hr hlk hWd d_MO_put_152
            · replace h := ifN h hc
              refine lv_aload_n hx hb d_MO_put_116 rfl (lv_at hl 2 rfl) ?_
              refine g_MO_keys hX t_412 hWd hv0 d_MO_put_117 ?_
              have q7 := v_MO_keys hWd hv0
              refine lv_aload_n hx hb d_MO_put_120 rfl (lv_at hl 2 rfl) ?_
              refine g_MO_sizes hX t_414 hWd hv0 d_MO_put_121 ?_
              have q8 := v_MO_sizes hWd hv0
              refine lv_iconst (v := 0) hx hb d_MO_put_124 (by decide) ?_
              obtain ⟨j9, hj9, h⟩ := ob h
              refine r_iald hX hWd q8 hj9 d_MO_put_125 ?_
              refine lv_iload_n hx hb d_MO_put_126 rfl (lv_at hl 3 rfl) ?_
              obtain ⟨j10, hj10, h⟩ := ob h
              refine r_iast hX hWd q7 hj10 d_MO_put_127 (fun H locs hWd => ?_)
              obtain ⟨M11, eM11, h⟩ := stE h
              rw [← eM11] at hWd
              refine lv_aload_n hx hb d_MO_put_128 rfl (lv_at hl 2 rfl) ?_
              refine g_MO_values hX t_413 hWd hv0 d_MO_put_129 ?_
              have q12 := v_MO_values hWd hv0
              refine lv_aload_n hx hb d_MO_put_132 rfl (lv_at hl 2 rfl) ?_
              refine g_MO_sizes hX t_414 hWd hv0 d_MO_put_133 ?_
              have q13 := v_MO_sizes hWd hv0
              refine lv_iconst (v := 0) hx hb d_MO_put_136 (by decide) ?_
              obtain ⟨j14, hj14, h⟩ := ob h
              refine r_iald hX hWd q13 hj14 d_MO_put_137 ?_
              refine lv_iload_n hx hb d_MO_put_138 rfl (lv_at hl 4 rfl) ?_
              obtain ⟨j15, hj15, h⟩ := ob h
              refine r_iast hX hWd q12 hj15 d_MO_put_139 (fun H locs hWd => ?_)
              obtain ⟨M16, eM16, h⟩ := stE h
              rw [← eM16] at hWd
              refine lv_aload_n hx hb d_MO_put_140 rfl (lv_at hl 2 rfl) ?_
              refine g_MO_sizes hX t_414 hWd hv0 d_MO_put_141 ?_
              have q17 := v_MO_sizes hWd hv0
              refine lv_iconst (v := 0) hx hb d_MO_put_144 (by decide) ?_
              refine lv_dup2_11 hx hb d_MO_put_145 rfl rfl ?_
              obtain ⟨j18, hj18, h⟩ := ob h
              refine r_iald hX hWd q17 hj18 d_MO_put_146 ?_
              refine lv_iconst (v := 1) hx hb d_MO_put_147 (by decide) ?_
              refine lv_iadd hx hb d_MO_put_148 ?_
              obtain ⟨j19, hj19, h⟩ := ob h
              refine r_iast hX hWd q17 hj19 d_MO_put_149 (fun H locs hWd => ?_)
              obtain ⟨M20, eM20, h⟩ := stE h
              rw [← eM20] at hWd
              refine lv_iload hx hb d_MO_put_150 (lv_at hl 0 rfl) ?_
              obtain rfl := Option.some.inj h
              exact e_iret hX hr hlk hWd d_MO_put_152
        · replace h := ifN h hc
          refine lv_aload_n hx hb d_MO_put_91 rfl (lv_at hl 2 rfl) ?_
          refine g_MO_values hX t_413 hWd hv0 d_MO_put_92 ?_
          have q21 := v_MO_values hWd hv0
          refine lv_iload_n hx hb d_MO_put_95 rfl (lv_at hl 1 rfl) ?_
          refine lv_iload_n hx hb d_MO_put_96 rfl (lv_at hl 4 rfl) ?_
          obtain ⟨j22, hj22, h⟩ := ob h
          refine r_iast hX hWd q21 hj22 d_MO_put_97 (fun H locs hWd => ?_)
          obtain ⟨M23, eM23, h⟩ := stE h
          rw [← eM23] at hWd
          refine lv_goto (tgt := 150) hx hb d_MO_put_98 (by decide) ?_
          refine lv_iload hx hb d_MO_put_150 (lv_at hl 0 rfl) ?_
          obtain rfl := Option.some.inj h
          exact e_iret hX hr hlk hWd d_MO_put_152
      · replace h := ifN h hc
        refine lv_iload_n hx hb d_MO_put_36 rfl (lv_at hl 4 rfl) ?_
        refine lv_if_ne (tgt := 87) hx hb d_MO_put_37 (by decide) (fun hc => ?_) (fun hc => ?_)
        · replace h := ifN h hc
          refine lv_iload_n hx hb d_MO_put_87 rfl (lv_at hl 1 rfl) ?_
          refine lv_if_lt (tgt := 101) hx hb d_MO_put_88 (by decide) (fun hc => ?_) (fun hc => ?_)
          · replace h := ifP h hc
            refine lv_iload_n hx hb d_MO_put_101 rfl (lv_at hl 4 rfl) ?_
            refine lv_if_eq (tgt := 150) hx hb d_MO_put_102 (by decide) (fun hc => ?_) (fun hc => ?_)
            · replace h := ifP h hc
              refine lv_iload hx hb d_MO_put_150 (lv_at hl 0 rfl) ?_
              obtain rfl := Option.some.inj h
              exact e_iret hX hr hlk hWd d_MO_put_152
            · replace h := ifN h hc
              refine lv_aload_n hx hb d_MO_put_105 rfl (lv_at hl 2 rfl) ?_
              refine g_MO_sizes hX t_414 hWd hv0 d_MO_put_106 ?_
              have q24 := v_MO_sizes hWd hv0
              refine lv_iconst (v := 0) hx hb d_MO_put_109 (by decide) ?_
              obtain ⟨j25, hj25, h⟩ := ob h
              refine r_iald hX hWd q24 hj25 d_MO_put_110 ?_
              refine lv_bipush (v := 16) hx hb d_MO_put_111 (by decide) ?_
              refine lv_icmp_ge (tgt := 150) hx hb d_MO_put_113 (by decide) (fun hc => ?_) (fun hc => ?_)
              · replace h := ifP h hc
                refine lv_iload hx hb d_MO_put_150 (lv_at hl 0 rfl) ?_
                obtain rfl := Option.some.inj h
                exact e_iret hX hr hlk hWd d_MO_put_152
              · replace h := ifN h hc
                refine lv_aload_n hx hb d_MO_put_116 rfl (lv_at hl 2 rfl) ?_
                refine g_MO_keys hX t_412 hWd hv0 d_MO_put_117 ?_
                have q26 := v_MO_keys hWd hv0
                refine lv_aload_n hx hb d_MO_put_120 rfl (lv_at hl 2 rfl) ?_
                refine g_MO_sizes hX t_414 hWd hv0 d_MO_put_121 ?_
                have q27 := v_MO_sizes hWd hv0
                refine lv_iconst (v := 0) hx hb d_MO_put_124 (by decide) ?_
                obtain ⟨j28, hj28, h⟩ := ob h
                refine r_iald hX hWd q27 hj28 d_MO_put_125 ?_
                refine lv_iload_n hx hb d_MO_put_126 rfl (lv_at hl 3 rfl) ?_
                obtain ⟨j29, hj29, h⟩ := ob h
                refine r_iast hX hWd q26 hj29 d_MO_put_127 (fun H locs hWd => ?_)
                obtain ⟨M30, eM30, h⟩ := stE h
                rw [← eM30] at hWd
                refine lv_aload_n hx hb d_MO_put_128 rfl (lv_at hl 2 rfl) ?_
                refine g_MO_values hX t_413 hWd hv0 d_MO_put_129 ?_
                have q31 := v_MO_values hWd hv0
                refine lv_aload_n hx hb d_MO_put_132 rfl (lv_at hl 2 rfl) ?_
                refine g_MO_sizes hX t_414 hWd hv0 d_MO_put_133 ?_
                have q32 := v_MO_sizes hWd hv0
                refine lv_iconst (v := 0) hx hb d_MO_put_136 (by decide) ?_
                obtain ⟨j33, hj33, h⟩ := ob h
                refine r_iald hX hWd q32 hj33 d_MO_put_137 ?_
                refine lv_iload_n hx hb d_MO_put_138 rfl (lv_at hl 4 rfl) ?_
                obtain ⟨j34, hj34, h⟩ := ob h
                refine r_iast hX hWd q31 hj34 d_MO_put_139 (fun H locs hWd => ?_)
                obtain ⟨M35, eM35, h⟩ := stE h
                rw [← eM35] at hWd
                refine lv_aload_n hx hb d_MO_put_140 rfl (lv_at hl 2 rfl) ?_
                refine g_MO_sizes hX t_414 hWd hv0 d_MO_put_141 ?_
                have q36 := v_MO_sizes hWd hv0
                refine lv_iconst (v := 0) hx hb d_MO_put_144 (by decide) ?_
                refine lv_dup2_11 hx hb d_MO_put_145 rfl rfl ?_
                obtain ⟨j37, hj37, h⟩ := ob h
                refine r_iald hX hWd q36 hj37 d_MO_put_146 ?_
                refine lv_iconst (v := 1) hx hb d_MO_put_147 (by decide) ?_
                refine lv_iadd hx hb d_MO_put_148 ?_
                obtain ⟨j38, hj38, h⟩ := ob h
                refine r_iast hX hWd q36 hj38 d_MO_put_149 (fun H locs hWd => ?_)
                obtain ⟨M39, eM39, h⟩ := stE h
                rw [← eM39] at hWd
                refine lv_iload hx hb d_MO_put_150 (lv_at hl 0 rfl) ?_
                obtain rfl := Option.some.inj h
                exact e_iret hX hr hlk hWd d_MO_put_152
          · replace h := ifN h hc
            refine lv_aload_n hx hb d_MO_put_91 rfl (lv_at hl 2 rfl) ?_
            refine g_MO_values hX t_413 hWd hv0 d_MO_put_92 ?_
            have q40 := v_MO_values hWd hv0
            refine lv_iload_n hx hb d_MO_put_95 rfl (lv_at hl 1 rfl) ?_
            refine lv_iload_n hx hb d_MO_put_96 rfl (lv_at hl 4 rfl) ?_
            obtain ⟨j41, hj41, h⟩ := ob h
            refine r_iast hX hWd q40 hj41 d_MO_put_97 (fun H locs hWd => ?_)
            obtain ⟨M42, eM42, h⟩ := stE h
            rw [← eM42] at hWd
            refine lv_goto (tgt := 150) hx hb d_MO_put_98 (by decide) ?_
            refine lv_iload hx hb d_MO_put_150 (lv_at hl 0 rfl) ?_
            obtain rfl := Option.some.inj h
            exact e_iret hX hr hlk hWd d_MO_put_152
        · replace h := ifP h hc
          refine lv_aload_n hx hb d_MO_put_40 rfl (lv_at hl 2 rfl) ?_
          refine g_MO_sizes hX t_414 hWd hv0 d_MO_put_41 ?_
          have q43 := v_MO_sizes hWd hv0
          refine lv_iconst (v := 0) hx hb d_MO_put_44 (by decide) ?_
          refine lv_dup2_11 hx hb d_MO_put_45 rfl rfl ?_
          obtain ⟨j44, hj44, h⟩ := ob h
          refine r_iald hX hWd q43 hj44 d_MO_put_46 ?_
          refine lv_iconst (v := 1) hx hb d_MO_put_47 (by decide) ?_
          refine lv_isub hx hb d_MO_put_48 ?_
          obtain ⟨j45, hj45, h⟩ := ob h
          refine r_iast hX hWd q43 hj45 d_MO_put_49 (fun H locs hWd => ?_)
          obtain ⟨M46, eM46, h⟩ := stE h
          rw [← eM46] at hWd
          refine lv_aload_n hx hb d_MO_put_50 rfl (lv_at hl 2 rfl) ?_
          refine g_MO_keys hX t_412 hWd hv0 d_MO_put_51 ?_
          have q47 := v_MO_keys hWd hv0
          refine lv_iload_n hx hb d_MO_put_54 rfl (lv_at hl 1 rfl) ?_
          refine lv_aload_n hx hb d_MO_put_55 rfl (lv_at hl 2 rfl) ?_
          refine g_MO_keys hX t_412 hWd hv0 d_MO_put_56 ?_
          have q48 := v_MO_keys hWd hv0
          refine lv_aload_n hx hb d_MO_put_59 rfl (lv_at hl 2 rfl) ?_
          refine g_MO_sizes hX t_414 hWd hv0 d_MO_put_60 ?_
          have q49 := v_MO_sizes hWd hv0
          refine lv_iconst (v := 0) hx hb d_MO_put_63 (by decide) ?_
          obtain ⟨j50, hj50, h⟩ := ob h
          refine r_iald hX hWd q49 hj50 d_MO_put_64 ?_
          obtain ⟨j51, hj51, h⟩ := ob h
          refine r_iald hX hWd q48 hj51 d_MO_put_65 ?_
          obtain ⟨j52, hj52, h⟩ := ob h
          refine r_iast hX hWd q47 hj52 d_MO_put_66 (fun H locs hWd => ?_)
          obtain ⟨M53, eM53, h⟩ := stE h
          rw [← eM53] at hWd
          refine lv_aload_n hx hb d_MO_put_67 rfl (lv_at hl 2 rfl) ?_
          refine g_MO_values hX t_413 hWd hv0 d_MO_put_68 ?_
          have q54 := v_MO_values hWd hv0
          refine lv_iload_n hx hb d_MO_put_71 rfl (lv_at hl 1 rfl) ?_
          refine lv_aload_n hx hb d_MO_put_72 rfl (lv_at hl 2 rfl) ?_
          refine g_MO_values hX t_413 hWd hv0 d_MO_put_73 ?_
          have q55 := v_MO_values hWd hv0
          refine lv_aload_n hx hb d_MO_put_76 rfl (lv_at hl 2 rfl) ?_
          refine g_MO_sizes hX t_414 hWd hv0 d_MO_put_77 ?_
          have q56 := v_MO_sizes hWd hv0
          refine lv_iconst (v := 0) hx hb d_MO_put_80 (by decide) ?_
          obtain ⟨j57, hj57, h⟩ := ob h
          refine r_iald hX hWd q56 hj57 d_MO_put_81 ?_
          obtain ⟨j58, hj58, h⟩ := ob h
          refine r_iald hX hWd q55 hj58 d_MO_put_82 ?_
          obtain ⟨j59, hj59, h⟩ := ob h
          refine r_iast hX hWd q54 hj59 d_MO_put_83 (fun H locs hWd => ?_)
          obtain ⟨M60, eM60, h⟩ := stE h
          rw [← eM60] at hWd
          refine lv_goto (tgt := 150) hx hb d_MO_put_84 (by decide) ?_
          refine lv_iload hx hb d_MO_put_150 (lv_at hl 0 rfl) ?_
          obtain rfl := Option.some.inj h
          exact e_iret hX hr hlk hWd d_MO_put_152
    · replace h := ifN h hc
      refine lv_iconst (v := 0) hx hb d_MO_put_20 (by decide) ?_
      refine lv_goto (tgt := 30) hx hb d_MO_put_21 (by decide) ?_
      refine lv_istore (lv' := [(4, .int 0), (3, .int q1), (0, .ref v0), (1, .int v1), (2, .int v2)]) hx hb d_MO_put_30 hl (by decide) rfl (fun ls hl => ?_)
      refine lv_iload_n hx hb d_MO_put_32 rfl (lv_at hl 1 rfl) ?_
      refine lv_if_lt (tgt := 87) hx hb d_MO_put_33 (by decide) (fun hc => ?_) (fun hc => ?_)
      · replace h := ifP h hc
        refine lv_iload_n hx hb d_MO_put_87 rfl (lv_at hl 1 rfl) ?_
        refine lv_if_lt (tgt := 101) hx hb d_MO_put_88 (by decide) (fun hc => ?_) (fun hc => ?_)
        · replace h := ifP h hc
          refine lv_iload_n hx hb d_MO_put_101 rfl (lv_at hl 4 rfl) ?_
          refine lv_if_eq (tgt := 150) hx hb d_MO_put_102 (by decide) (fun hc => ?_) (fun hc => ?_)
          · replace h := ifP h hc
            refine lv_iload hx hb d_MO_put_150 (lv_at hl 0 rfl) ?_
            obtain rfl := Option.some.inj h
            exact e_iret hX hr hlk hWd d_MO_put_152
          · replace h := ifN h hc
            refine lv_aload_n hx hb d_MO_put_105 rfl (lv_at hl 2 rfl) ?_
            refine g_MO_sizes hX t_414 hWd hv0 d_MO_put_106 ?_
            have q61 := v_MO_sizes hWd hv0
            refine lv_iconst (v := 0) hx hb d_MO_put_109 (by decide) ?_
            obtain ⟨j62, hj62, h⟩ := ob h
            refine r_iald hX hWd q61 hj62 d_MO_put_110 ?_
            refine lv_bipush (v := 16) hx hb d_MO_put_111 (by decide) ?_
            refine lv_icmp_ge (tgt := 150) hx hb d_MO_put_113 (by decide) (fun hc => ?_) (fun hc => ?_)
            · replace h := ifP h hc
              refine lv_iload hx hb d_MO_put_150 (lv_at hl 0 rfl) ?_
              obtain rfl := Option.some.inj h
              exact e_iret hX hr hlk hWd d_MO_put_152
            · replace h := ifN h hc
              refine lv_aload_n hx hb d_MO_put_116 rfl (lv_at hl 2 rfl) ?_
              refine g_MO_keys hX t_412 hWd hv0 d_MO_put_117 ?_
              have q63 := v_MO_keys hWd hv0
              refine lv_aload_n hx hb d_MO_put_120 rfl (lv_at hl 2 rfl) ?_
              refine g_MO_sizes hX t_414 hWd hv0 d_MO_put_121 ?_
              have q64 := v_MO_sizes hWd hv0
              refine lv_iconst (v := 0) hx hb d_MO_put_124 (by decide) ?_
              obtain ⟨j65, hj65, h⟩ := ob h
              refine r_iald hX hWd q64 hj65 d_MO_put_125 ?_
              refine lv_iload_n hx hb d_MO_put_126 rfl (lv_at hl 3 rfl) ?_
              obtain ⟨j66, hj66, h⟩ := ob h
              refine r_iast hX hWd q63 hj66 d_MO_put_127 (fun H locs hWd => ?_)
              obtain ⟨M67, eM67, h⟩ := stE h
              rw [← eM67] at hWd
              refine lv_aload_n hx hb d_MO_put_128 rfl (lv_at hl 2 rfl) ?_
              refine g_MO_values hX t_413 hWd hv0 d_MO_put_129 ?_
              have q68 := v_MO_values hWd hv0
              refine lv_aload_n hx hb d_MO_put_132 rfl (lv_at hl 2 rfl) ?_
              refine g_MO_sizes hX t_414 hWd hv0 d_MO_put_133 ?_
              have q69 := v_MO_sizes hWd hv0
              refine lv_iconst (v := 0) hx hb d_MO_put_136 (by decide) ?_
              obtain ⟨j70, hj70, h⟩ := ob h
              refine r_iald hX hWd q69 hj70 d_MO_put_137 ?_
              refine lv_iload_n hx hb d_MO_put_138 rfl (lv_at hl 4 rfl) ?_
              obtain ⟨j71, hj71, h⟩ := ob h
              refine r_iast hX hWd q68 hj71 d_MO_put_139 (fun H locs hWd => ?_)
              obtain ⟨M72, eM72, h⟩ := stE h
              rw [← eM72] at hWd
              refine lv_aload_n hx hb d_MO_put_140 rfl (lv_at hl 2 rfl) ?_
              refine g_MO_sizes hX t_414 hWd hv0 d_MO_put_141 ?_
              have q73 := v_MO_sizes hWd hv0
              refine lv_iconst (v := 0) hx hb d_MO_put_144 (by decide) ?_
              refine lv_dup2_11 hx hb d_MO_put_145 rfl rfl ?_
              obtain ⟨j74, hj74, h⟩ := ob h
              refine r_iald hX hWd q73 hj74 d_MO_put_146 ?_
              refine lv_iconst (v := 1) hx hb d_MO_put_147 (by decide) ?_
              refine lv_iadd hx hb d_MO_put_148 ?_
              obtain ⟨j75, hj75, h⟩ := ob h
              refine r_iast hX hWd q73 hj75 d_MO_put_149 (fun H locs hWd => ?_)
              obtain ⟨M76, eM76, h⟩ := stE h
              rw [← eM76] at hWd
              refine lv_iload hx hb d_MO_put_150 (lv_at hl 0 rfl) ?_
              obtain rfl := Option.some.inj h
              exact e_iret hX hr hlk hWd d_MO_put_152
        · replace h := ifN h hc
          refine lv_aload_n hx hb d_MO_put_91 rfl (lv_at hl 2 rfl) ?_
          refine g_MO_values hX t_413 hWd hv0 d_MO_put_92 ?_
          have q77 := v_MO_values hWd hv0
          refine lv_iload_n hx hb d_MO_put_95 rfl (lv_at hl 1 rfl) ?_
          refine lv_iload_n hx hb d_MO_put_96 rfl (lv_at hl 4 rfl) ?_
          obtain ⟨j78, hj78, h⟩ := ob h
          refine r_iast hX hWd q77 hj78 d_MO_put_97 (fun H locs hWd => ?_)
          obtain ⟨M79, eM79, h⟩ := stE h
          rw [← eM79] at hWd
          refine lv_goto (tgt := 150) hx hb d_MO_put_98 (by decide) ?_
          refine lv_iload hx hb d_MO_put_150 (lv_at hl 0 rfl) ?_
          obtain rfl := Option.some.inj h
          exact e_iret hX hr hlk hWd d_MO_put_152
      · replace h := ifN h hc
        refine lv_iload_n hx hb d_MO_put_36 rfl (lv_at hl 4 rfl) ?_
        refine lv_if_ne (tgt := 87) hx hb d_MO_put_37 (by decide) (fun hc => ?_) (fun hc => ?_)
        · replace h := ifN h hc
          refine lv_iload_n hx hb d_MO_put_87 rfl (lv_at hl 1 rfl) ?_
          refine lv_if_lt (tgt := 101) hx hb d_MO_put_88 (by decide) (fun hc => ?_) (fun hc => ?_)
          · replace h := ifP h hc
            refine lv_iload_n hx hb d_MO_put_101 rfl (lv_at hl 4 rfl) ?_
            refine lv_if_eq (tgt := 150) hx hb d_MO_put_102 (by decide) (fun hc => ?_) (fun hc => ?_)
            · replace h := ifP h hc
              refine lv_iload hx hb d_MO_put_150 (lv_at hl 0 rfl) ?_
              obtain rfl := Option.some.inj h
              exact e_iret hX hr hlk hWd d_MO_put_152
            · replace h := ifN h hc
              refine lv_aload_n hx hb d_MO_put_105 rfl (lv_at hl 2 rfl) ?_
              refine g_MO_sizes hX t_414 hWd hv0 d_MO_put_106 ?_
              have q80 := v_MO_sizes hWd hv0
              refine lv_iconst (v := 0) hx hb d_MO_put_109 (by decide) ?_
              obtain ⟨j81, hj81, h⟩ := ob h
              refine r_iald hX hWd q80 hj81 d_MO_put_110 ?_
              refine lv_bipush (v := 16) hx hb d_MO_put_111 (by decide) ?_
              refine lv_icmp_ge (tgt := 150) hx hb d_MO_put_113 (by decide) (fun hc => ?_) (fun hc => ?_)
              · replace h := ifP h hc
                refine lv_iload hx hb d_MO_put_150 (lv_at hl 0 rfl) ?_
                obtain rfl := Option.some.inj h
                exact e_iret hX hr hlk hWd d_MO_put_152
              · replace h := ifN h hc
                refine lv_aload_n hx hb d_MO_put_116 rfl (lv_at hl 2 rfl) ?_
                refine g_MO_keys hX t_412 hWd hv0 d_MO_put_117 ?_
                have q82 := v_MO_keys hWd hv0
                refine lv_aload_n hx hb d_MO_put_120 rfl (lv_at hl 2 rfl) ?_
                refine g_MO_sizes hX t_414 hWd hv0 d_MO_put_121 ?_
                have q83 := v_MO_sizes hWd hv0
                refine lv_iconst (v := 0) hx hb d_MO_put_124 (by decide) ?_
                obtain ⟨j84, hj84, h⟩ := ob h
                refine r_iald hX hWd q83 hj84 d_MO_put_125 ?_
                refine lv_iload_n hx hb d_MO_put_126 rfl (lv_at hl 3 rfl) ?_
                obtain ⟨j85, hj85, h⟩ := ob h
                refine r_iast hX hWd q82 hj85 d_MO_put_127 (fun H locs hWd => ?_)
                obtain ⟨M86, eM86, h⟩ := stE h
                rw [← eM86] at hWd
                refine lv_aload_n hx hb d_MO_put_128 rfl (lv_at hl 2 rfl) ?_
                refine g_MO_values hX t_413 hWd hv0 d_MO_put_129 ?_
                have q87 := v_MO_values hWd hv0
                refine lv_aload_n hx hb d_MO_put_132 rfl (lv_at hl 2 rfl) ?_
                refine g_MO_sizes hX t_414 hWd hv0 d_MO_put_133 ?_
                have q88 := v_MO_sizes hWd hv0
                refine lv_iconst (v := 0) hx hb d_MO_put_136 (by decide) ?_
                obtain ⟨j89, hj89, h⟩ := ob h
                refine r_iald hX hWd q88 hj89 d_MO_put_137 ?_
                refine lv_iload_n hx hb d_MO_put_138 rfl (lv_at hl 4 rfl) ?_
                obtain ⟨j90, hj90, h⟩ := ob h
                refine r_iast hX hWd q87 hj90 d_MO_put_139 (fun H locs hWd => ?_)
                obtain ⟨M91, eM91, h⟩ := stE h
                rw [← eM91] at hWd
                refine lv_aload_n hx hb d_MO_put_140 rfl (lv_at hl 2 rfl) ?_
                refine g_MO_sizes hX t_414 hWd hv0 d_MO_put_141 ?_
                have q92 := v_MO_sizes hWd hv0
                refine lv_iconst (v := 0) hx hb d_MO_put_144 (by decide) ?_
                refine lv_dup2_11 hx hb d_MO_put_145 rfl rfl ?_
                obtain ⟨j93, hj93, h⟩ := ob h
                refine r_iald hX hWd q92 hj93 d_MO_put_146 ?_
                refine lv_iconst (v := 1) hx hb d_MO_put_147 (by decide) ?_
                refine lv_iadd hx hb d_MO_put_148 ?_
                obtain ⟨j94, hj94, h⟩ := ob h
                refine r_iast hX hWd q92 hj94 d_MO_put_149 (fun H locs hWd => ?_)
                obtain ⟨M95, eM95, h⟩ := stE h
                rw [← eM95] at hWd
                refine lv_iload hx hb d_MO_put_150 (lv_at hl 0 rfl) ?_
                obtain rfl := Option.some.inj h
                exact e_iret hX hr hlk hWd d_MO_put_152
          · replace h := ifN h hc
            refine lv_aload_n hx hb d_MO_put_91 rfl (lv_at hl 2 rfl) ?_
            refine g_MO_values hX t_413 hWd hv0 d_MO_put_92 ?_
            have q96 := v_MO_values hWd hv0
            refine lv_iload_n hx hb d_MO_put_95 rfl (lv_at hl 1 rfl) ?_
            refine lv_iload_n hx hb d_MO_put_96 rfl (lv_at hl 4 rfl) ?_
            obtain ⟨j97, hj97, h⟩ := ob h
            refine r_iast hX hWd q96 hj97 d_MO_put_97 (fun H locs hWd => ?_)
            obtain ⟨M98, eM98, h⟩ := stE h
            rw [← eM98] at hWd
            refine lv_goto (tgt := 150) hx hb d_MO_put_98 (by decide) ?_
            refine lv_iload hx hb d_MO_put_150 (lv_at hl 0 rfl) ?_
            obtain rfl := Option.some.inj h
            exact e_iret hX hr hlk hWd d_MO_put_152
        · replace h := ifP h hc
          refine lv_aload_n hx hb d_MO_put_40 rfl (lv_at hl 2 rfl) ?_
          refine g_MO_sizes hX t_414 hWd hv0 d_MO_put_41 ?_
          have q99 := v_MO_sizes hWd hv0
          refine lv_iconst (v := 0) hx hb d_MO_put_44 (by decide) ?_
          refine lv_dup2_11 hx hb d_MO_put_45 rfl rfl ?_
          obtain ⟨j100, hj100, h⟩ := ob h
          refine r_iald hX hWd q99 hj100 d_MO_put_46 ?_
          refine lv_iconst (v := 1) hx hb d_MO_put_47 (by decide) ?_
          refine lv_isub hx hb d_MO_put_48 ?_
          obtain ⟨j101, hj101, h⟩ := ob h
          refine r_iast hX hWd q99 hj101 d_MO_put_49 (fun H locs hWd => ?_)
          obtain ⟨M102, eM102, h⟩ := stE h
          rw [← eM102] at hWd
          refine lv_aload_n hx hb d_MO_put_50 rfl (lv_at hl 2 rfl) ?_
          refine g_MO_keys hX t_412 hWd hv0 d_MO_put_51 ?_
          have q103 := v_MO_keys hWd hv0
          refine lv_iload_n hx hb d_MO_put_54 rfl (lv_at hl 1 rfl) ?_
          refine lv_aload_n hx hb d_MO_put_55 rfl (lv_at hl 2 rfl) ?_
          refine g_MO_keys hX t_412 hWd hv0 d_MO_put_56 ?_
          have q104 := v_MO_keys hWd hv0
          refine lv_aload_n hx hb d_MO_put_59 rfl (lv_at hl 2 rfl) ?_
          refine g_MO_sizes hX t_414 hWd hv0 d_MO_put_60 ?_
          have q105 := v_MO_sizes hWd hv0
          refine lv_iconst (v := 0) hx hb d_MO_put_63 (by decide) ?_
          obtain ⟨j106, hj106, h⟩ := ob h
          refine r_iald hX hWd q105 hj106 d_MO_put_64 ?_
          obtain ⟨j107, hj107, h⟩ := ob h
          refine r_iald hX hWd q104 hj107 d_MO_put_65 ?_
          obtain ⟨j108, hj108, h⟩ := ob h
          refine r_iast hX hWd q103 hj108 d_MO_put_66 (fun H locs hWd => ?_)
          obtain ⟨M109, eM109, h⟩ := stE h
          rw [← eM109] at hWd
          refine lv_aload_n hx hb d_MO_put_67 rfl (lv_at hl 2 rfl) ?_
          refine g_MO_values hX t_413 hWd hv0 d_MO_put_68 ?_
          have q110 := v_MO_values hWd hv0
          refine lv_iload_n hx hb d_MO_put_71 rfl (lv_at hl 1 rfl) ?_
          refine lv_aload_n hx hb d_MO_put_72 rfl (lv_at hl 2 rfl) ?_
          refine g_MO_values hX t_413 hWd hv0 d_MO_put_73 ?_
          have q111 := v_MO_values hWd hv0
          refine lv_aload_n hx hb d_MO_put_76 rfl (lv_at hl 2 rfl) ?_
          refine g_MO_sizes hX t_414 hWd hv0 d_MO_put_77 ?_
          have q112 := v_MO_sizes hWd hv0
          refine lv_iconst (v := 0) hx hb d_MO_put_80 (by decide) ?_
          obtain ⟨j113, hj113, h⟩ := ob h
          refine r_iald hX hWd q112 hj113 d_MO_put_81 ?_
          obtain ⟨j114, hj114, h⟩ := ob h
          refine r_iald hX hWd q111 hj114 d_MO_put_82 ?_
          obtain ⟨j115, hj115, h⟩ := ob h
          refine r_iast hX hWd q110 hj115 d_MO_put_83 (fun H locs hWd => ?_)
          obtain ⟨M116, eM116, h⟩ := stE h
          rw [← eM116] at hWd
          refine lv_goto (tgt := 150) hx hb d_MO_put_84 (by decide) ?_
          refine lv_iload hx hb d_MO_put_150 (lv_at hl 0 rfl) ?_
          obtain rfl := Option.some.inj h
          exact e_iret hX hr hlk hWd d_MO_put_152
  · replace h := ifN h hc
    refine lv_iconst (v := 0) hx hb d_MO_put_7 (by decide) ?_
    obtain rfl := Option.some.inj h
    exact e_iret hX hr hlk hWd d_MO_put_8
set_option maxHeartbeats 4000000 in
set_option maxRecDepth 100000 in
theorem m_MO_valueIn (l : Launch) {E : En} {K G : Nat → Nat} {L : List Nat} {M : Mm} {sz : Nat} {out : Int32} (v0 : Nat) (v1 : Int32) (v2 : Int32) (hv0 : K v0 = 9) (h : f_MO_valueIn G v0 v1 v2 M = some out) : Met l y_MO_valueIn w_MO_valueIn rm_MO_valueIn (va_Pc [.ref v0, .int v1, .int v2] (Wp E K G L M sz)) (QI E K G L sz out M) 0 0 (AL L sz) := by
  refine Met.ofW (cc := b_MO_valueIn) (maxL := 4) (ret := (some .int)) (by decide) rfl ?_
  intro p e s m av below meth c s₁ B hml hv
  obtain ⟨rfl, hWp⟩ := hv
  have hWd := Wd.start hWp
  obtain ⟨rfl, -⟩ := hWp
  have hX : CallFix p m c b_MO_valueIn 4 s _ w_MO_valueIn "NibbleTrieModel" := ⟨B.exec, B.bytes, hml, findClass_of_methodNamed B.named, atoms_spec (ws := w_MO_valueIn) B.pre⟩
  have hx := hX.1
  have hb := hX.2.1
  have hown := hX.2.2.2.1
  have hts := hX.2.2.2.2
  have hr := B.returns
  have hlk := B.notSynchronized
  have hl := lv_entry ([.ref v0, .int v1, .int v2]) (n := 4) (Nat.le_of_ble_eq_true rfl)
  rw [lg_entry_eq]
  generalize (lg_sl ([.ref v0, .int v1, .int v2]) ++ List.replicate (4 - (lg_sl ([.ref v0, .int v1, .int v2])).length) Slot.unset).toArray = ls at hl ⊢
  have hl : lv_has ls 4 [(0, .ref v0), (1, .int v1), (2, .int v2)] := hl
  unfold f_MO_valueIn at h
  refine lv_aload_n hx hb d_MO_valueIn_0 rfl (lv_at hl 0 rfl) ?_
  refine lv_iload_n hx hb d_MO_valueIn_1 rfl (lv_at hl 1 rfl) ?_
  refine lv_iload_n hx hb d_MO_valueIn_2 rfl (lv_at hl 2 rfl) ?_
  obtain ⟨q1, hq1, h⟩ := ob h
  refine kc_i (va_runV (As := [.int v1, .int v2]) (rest := []) hX (m_MO_find l  v0 v1 v2 hv0 hq1) (cb_MO_find hts t_473 ⟨Nat.le_of_ble_eq_true rfl, Nat.le_of_ble_eq_true rfl⟩) (pv_MO hWd hv0) rfl rfl hl.1 rfl (lv_room (Nat.le_of_ble_eq_true rfl)) d_MO_valueIn_3 ⟨Nat.zero_le _, Nat.zero_le _⟩) hWd (fun H locs hWd => ?_)
  refine lv_istore_n (lv' := [(3, .int q1), (0, .ref v0), (1, .int v1), (2, .int v2)]) hx hb d_MO_valueIn_6 rfl hl (by decide) rfl (fun ls hl => ?_)
  refine lv_iload_n hx hb d_MO_valueIn_7 rfl (lv_at hl 0 rfl) ?_
  refine lv_if_ge (tgt := 15) hx hb d_MO_valueIn_8 (by decide) (fun hc => ?_) (fun hc => ?_)
  · replace h := ifP h hc
    refine lv_aload_n hx hb d_MO_valueIn_15 rfl (lv_at hl 1 rfl) ?_
    refine g_MO_values hX t_413 hWd hv0 d_MO_valueIn_16 ?_
    have q2 := v_MO_values hWd hv0
    refine lv_iload_n hx hb d_MO_valueIn_19 rfl (lv_at hl 0 rfl) ?_
    obtain ⟨j3, hj3, h⟩ := ob h
    refine r_iald hX hWd q2 hj3 d_MO_valueIn_20 ?_
    obtain rfl := Option.some.inj h
    exact e_iret hX hr hlk hWd d_MO_valueIn_21
  · replace h := ifN h hc
    refine lv_iconst (v := 0) hx hb d_MO_valueIn_11 (by decide) ?_
    refine lv_goto (tgt := 21) hx hb d_MO_valueIn_12 (by decide) ?_
    obtain rfl := Option.some.inj h
    exact e_iret hX hr hlk hWd d_MO_valueIn_21
set_option maxHeartbeats 4000000 in
set_option maxRecDepth 100000 in
theorem m_MO_get (l : Launch) {E : En} {K G : Nat → Nat} {L : List Nat} {M : Mm} {sz : Nat} {out : Int32} (v0 : Nat) (v1 : Int32) (hv0 : K v0 = 9) (h : f_MO_get G v0 v1 M = some out) : Met l y_MO_get w_MO_get rm_MO_get (va_Pc [.ref v0, .int v1] (Wp E K G L M sz)) (QI E K G L sz out M) 0 0 (AL L sz) := by
  refine Met.ofW (cc := b_MO_get) (maxL := 2) (ret := (some .int)) (by decide) rfl ?_
  intro p e s m av below meth c s₁ B hml hv
  obtain ⟨rfl, hWp⟩ := hv
  have hWd := Wd.start hWp
  obtain ⟨rfl, -⟩ := hWp
  have hX : CallFix p m c b_MO_get 2 s _ w_MO_get "NibbleTrieModel" := ⟨B.exec, B.bytes, hml, findClass_of_methodNamed B.named, atoms_spec (ws := w_MO_get) B.pre⟩
  have hx := hX.1
  have hb := hX.2.1
  have hown := hX.2.2.2.1
  have hts := hX.2.2.2.2
  have hr := B.returns
  have hlk := B.notSynchronized
  have hl := lv_entry ([.ref v0, .int v1]) (n := 2) (Nat.le_of_ble_eq_true rfl)
  rw [lg_entry_eq]
  generalize (lg_sl ([.ref v0, .int v1]) ++ List.replicate (2 - (lg_sl ([.ref v0, .int v1])).length) Slot.unset).toArray = ls at hl ⊢
  have hl : lv_has ls 2 [(0, .ref v0), (1, .int v1)] := hl
  unfold f_MO_get at h
  refine lv_aload_n hx hb d_MO_get_0 rfl (lv_at hl 0 rfl) ?_
  refine lv_iconst (v := 0) hx hb d_MO_get_1 (by decide) ?_
  refine lv_iload_n hx hb d_MO_get_2 rfl (lv_at hl 1 rfl) ?_
  obtain ⟨q1, hq1, h⟩ := ob h
  refine kc_i (va_runV (As := [.int 0, .int v1]) (rest := []) hX (m_MO_valueIn l  v0 0 v1 hv0 hq1) (cb_MO_valueIn hts t_481 ⟨Nat.le_of_ble_eq_true rfl, Nat.le_of_ble_eq_true rfl⟩) (pv_MO hWd hv0) rfl rfl hl.1 rfl (lv_room (Nat.le_of_ble_eq_true rfl)) d_MO_get_3 ⟨Nat.zero_le _, Nat.zero_le _⟩) hWd (fun H locs hWd => ?_)
  obtain rfl := Option.some.inj h
  exact e_iret hX hr hlk hWd d_MO_get_6
set_option maxHeartbeats 4000000 in
set_option maxRecDepth 100000 in
theorem m_MO_size (l : Launch) {E : En} {K G : Nat → Nat} {L : List Nat} {M : Mm} {sz : Nat} {out : Int32} (v0 : Nat) (hv0 : K v0 = 9) (h : f_MO_size G v0 M = some out) : Met l y_MO_size w_MO_size rm_MO_size (va_Pc [.ref v0] (Wp E K G L M sz)) (QI E K G L sz out M) 0 0 (AL L sz) := by
  refine Met.ofW (cc := b_MO_size) (maxL := 1) (ret := (some .int)) (by decide) rfl ?_
  intro p e s m av below meth c s₁ B hml hv
  obtain ⟨rfl, hWp⟩ := hv
  have hWd := Wd.start hWp
  obtain ⟨rfl, -⟩ := hWp
  have hX : CallFix p m c b_MO_size 1 s _ w_MO_size "NibbleTrieModel" := ⟨B.exec, B.bytes, hml, findClass_of_methodNamed B.named, atoms_spec (ws := w_MO_size) B.pre⟩
  have hx := hX.1
  have hb := hX.2.1
  have hown := hX.2.2.2.1
  have hts := hX.2.2.2.2
  have hr := B.returns
  have hlk := B.notSynchronized
  have hl := lv_entry ([.ref v0]) (n := 1) (Nat.le_of_ble_eq_true rfl)
  rw [lg_entry_eq]
  generalize (lg_sl ([.ref v0]) ++ List.replicate (1 - (lg_sl ([.ref v0])).length) Slot.unset).toArray = ls at hl ⊢
  have hl : lv_has ls 1 [(0, .ref v0)] := hl
  unfold f_MO_size at h
  refine lv_aload_n hx hb d_MO_size_0 rfl (lv_at hl 0 rfl) ?_
  refine g_MO_sizes hX t_414 hWd hv0 d_MO_size_1 ?_
  have q1 := v_MO_sizes hWd hv0
  refine lv_iconst (v := 0) hx hb d_MO_size_4 (by decide) ?_
  obtain ⟨j2, hj2, h⟩ := ob h
  refine r_iald hX hWd q1 hj2 d_MO_size_5 ?_
  obtain rfl := Option.some.inj h
  exact e_iret hX hr hlk hWd d_MO_size_6
set_option maxHeartbeats 4000000 in
set_option maxRecDepth 100000 in
theorem w_MO_members_8 {p : Program} {l : Launch} {e : Env} {s : State} {m : MethodId} {args : Array Value} {below : List Frame} {meth : Method} {c : Code} {E : En} {K G : Nat → Nat} {L : List Nat} (hX : CallFix p m c b_MO_members 5 s args w_MO_members "NibbleTrieModel") (hr : meth.sig.returnType = (some .int)) (hlk : meth.locks = false) {out : Int32} : ∀ (n : Nat) (v0 : Nat) (v1 : Int32) (v2 : Int32) (v3 : Int32) (v4 : Int32) (M : Mm) (H : Heap) (locs : List Loc) (ls : Array Slot), K v0 = 9 → lv_has ls 5 [(0, .ref v0), (1, .int v1), (2, .int v2), (3, .int v3), (4, .int v4)] → Wd E K G L M s.heap H locs s → f_MO_members_8 G n v0 v1 v2 v3 v4 M = some out → W p l e rm_MO_members s m args below meth c H locs 0 0 (MQ below (QI E K G L s.heap.size out M) args s 0 0 (AL L s.heap.size)) (F0 m 8 ls []) := by
  have hx := hX.1
  have hb := hX.2.1
  have hown := hX.2.2.2.1
  have hts := hX.2.2.2.2
  intro n
  induction n with
  | zero => intro _ _ _ _ _ _ _ _ _ _ _ _ h; rw [f_MO_members_8] at h; cases h
  | succ n ih =>
    intro v0 v1 v2 v3 v4 M H locs ls hv0 hl hWd h
    rw [f_MO_members_8] at h
    refine lv_iload hx hb d_MO_members_8 (lv_at hl 4 rfl) ?_
    refine lv_bipush (v := 16) hx hb d_MO_members_10 (by decide) ?_
    refine lv_iload_n hx hb d_MO_members_12 rfl (lv_at hl 1 rfl) ?_
    refine lv_imul hx hb d_MO_members_13 ?_
    refine lv_aload_n hx hb d_MO_members_14 rfl (lv_at hl 0 rfl) ?_
    refine g_MO_sizes hX t_414 hWd hv0 d_MO_members_15 ?_
    have q1 := v_MO_sizes hWd hv0
    refine lv_iload_n hx hb d_MO_members_18 rfl (lv_at hl 1 rfl) ?_
    obtain ⟨j2, hj2, h⟩ := ob h
    refine r_iald hX hWd q1 hj2 d_MO_members_19 ?_
    refine lv_iadd hx hb d_MO_members_20 ?_
    refine lv_icmp_ge (tgt := 52) hx hb d_MO_members_21 (by decide) (fun hc => ?_) (fun hc => ?_)
    · replace h := ifP h hc
      refine lv_iload_n hx hb d_MO_members_52 rfl (lv_at hl 3 rfl) ?_
      obtain rfl := Option.some.inj h
      exact e_iret hX hr hlk hWd d_MO_members_53
    · replace h := ifN h hc
      refine lv_aload_n hx hb d_MO_members_24 rfl (lv_at hl 0 rfl) ?_
      refine g_MO_keys hX t_412 hWd hv0 d_MO_members_25 ?_
      have q3 := v_MO_keys hWd hv0
      refine lv_iload hx hb d_MO_members_28 (lv_at hl 4 rfl) ?_
      obtain ⟨j4, hj4, h⟩ := ob h
      refine r_iald hX hWd q3 hj4 d_MO_members_30 ?_
      refine lv_iload_n hx hb d_MO_members_31 rfl (lv_at hl 2 rfl) ?_
      refine kp_z (va_runS (As := [.int (gi M (gr M v0 0) j4), .int v2]) (rest := []) hX (m_MO_begins l  (gi M (gr M v0 0) j4) v2 rfl) (cb_MO_begins hts t_509 ⟨Nat.le_of_ble_eq_true rfl, Nat.le_of_ble_eq_true rfl⟩) preEq rfl rfl hl.1 rfl (lv_room (Nat.le_of_ble_eq_true rfl)) d_MO_members_32 ⟨Nat.zero_le _, Nat.zero_le _⟩) (fun z5 => ?_)
      refine lv_if_eq (tgt := 44) hx hb d_MO_members_35 (by decide) (fun hc => ?_) (fun hc => ?_)
      · replace h := ifP h hc
        refine lv_iload_n hx hb d_MO_members_44 rfl (lv_at hl 3 rfl) ?_
        refine lv_istore_n (lv' := [(3, .int v3), (0, .ref v0), (1, .int v1), (2, .int v2), (4, .int v4)]) hx hb d_MO_members_45 rfl hl (by decide) rfl (fun ls hl => ?_)
        refine lv_iinc (k := 4) (v := (v4 + 1)) (lv' := [(4, .int (v4 + 1)), (3, .int v3), (0, .ref v0), (1, .int v1), (2, .int v2)]) hx hb d_MO_members_46 hl rfl (by rfl) (by decide) rfl (fun ls hl => ?_)
        refine lv_goto (tgt := 8) hx hb d_MO_members_49 (by decide) ?_
        exact ih v0 v1 v2 v3 (v4 + 1) M _ _ _ hv0 (lv_sub hl [2, 3, 4, 1, 0] rfl) hWd h
      · replace h := ifN h hc
        refine lv_iload_n hx hb d_MO_members_38 rfl (lv_at hl 3 rfl) ?_
        refine lv_iconst (v := 1) hx hb d_MO_members_39 (by decide) ?_
        refine lv_iadd hx hb d_MO_members_40 ?_
        refine lv_goto (tgt := 45) hx hb d_MO_members_41 (by decide) ?_
        refine lv_istore_n (lv' := [(3, .int (v3 + 1)), (0, .ref v0), (1, .int v1), (2, .int v2), (4, .int v4)]) hx hb d_MO_members_45 rfl hl (by decide) rfl (fun ls hl => ?_)
        refine lv_iinc (k := 4) (v := (v4 + 1)) (lv' := [(4, .int (v4 + 1)), (3, .int (v3 + 1)), (0, .ref v0), (1, .int v1), (2, .int v2)]) hx hb d_MO_members_46 hl rfl (by rfl) (by decide) rfl (fun ls hl => ?_)
        refine lv_goto (tgt := 8) hx hb d_MO_members_49 (by decide) ?_
        exact ih v0 v1 v2 (v3 + 1) (v4 + 1) M _ _ _ hv0 (lv_sub hl [2, 3, 4, 1, 0] rfl) hWd h
set_option maxHeartbeats 4000000 in
set_option maxRecDepth 100000 in
theorem m_MO_members (l : Launch) {E : En} {K G : Nat → Nat} {L : List Nat} {M : Mm} {sz : Nat} {out : Int32} (v0 : Nat) (v1 : Int32) (v2 : Int32) (hv0 : K v0 = 9) (h : f_MO_members G v0 v1 v2 M = some out) : Met l y_MO_members w_MO_members rm_MO_members (va_Pc [.ref v0, .int v1, .int v2] (Wp E K G L M sz)) (QI E K G L sz out M) 0 0 (AL L sz) := by
  refine Met.ofW (cc := b_MO_members) (maxL := 5) (ret := (some .int)) (by decide) rfl ?_
  intro p e s m av below meth c s₁ B hml hv
  obtain ⟨rfl, hWp⟩ := hv
  have hWd := Wd.start hWp
  obtain ⟨rfl, -⟩ := hWp
  have hX : CallFix p m c b_MO_members 5 s _ w_MO_members "NibbleTrieModel" := ⟨B.exec, B.bytes, hml, findClass_of_methodNamed B.named, atoms_spec (ws := w_MO_members) B.pre⟩
  have hx := hX.1
  have hb := hX.2.1
  have hown := hX.2.2.2.1
  have hts := hX.2.2.2.2
  have hr := B.returns
  have hlk := B.notSynchronized
  have hl := lv_entry ([.ref v0, .int v1, .int v2]) (n := 5) (Nat.le_of_ble_eq_true rfl)
  rw [lg_entry_eq]
  generalize (lg_sl ([.ref v0, .int v1, .int v2]) ++ List.replicate (5 - (lg_sl ([.ref v0, .int v1, .int v2])).length) Slot.unset).toArray = ls at hl ⊢
  have hl : lv_has ls 5 [(0, .ref v0), (1, .int v1), (2, .int v2)] := hl
  unfold f_MO_members at h
  refine lv_iconst (v := 0) hx hb d_MO_members_0 (by decide) ?_
  refine lv_istore_n (lv' := [(3, .int 0), (0, .ref v0), (1, .int v1), (2, .int v2)]) hx hb d_MO_members_1 rfl hl (by decide) rfl (fun ls hl => ?_)
  refine lv_bipush (v := 16) hx hb d_MO_members_2 (by decide) ?_
  refine lv_iload_n hx hb d_MO_members_4 rfl (lv_at hl 2 rfl) ?_
  refine lv_imul hx hb d_MO_members_5 ?_
  refine lv_istore (lv' := [(4, .int (16 * v1)), (3, .int 0), (0, .ref v0), (1, .int v1), (2, .int v2)]) hx hb d_MO_members_6 hl (by decide) rfl (fun ls hl => ?_)
  exact w_MO_members_8 hX hr hlk FU v0 v1 v2 0 (16 * v1) M _ _ _ hv0 (lv_sub hl [2, 3, 4, 1, 0] rfl) hWd h
set_option maxHeartbeats 4000000 in
set_option maxRecDepth 100000 in
theorem w_MO_member_5 {p : Program} {l : Launch} {e : Env} {s : State} {m : MethodId} {args : Array Value} {below : List Frame} {meth : Method} {c : Code} {E : En} {K G : Nat → Nat} {L : List Nat} (hX : CallFix p m c b_MO_member 4 s args w_MO_member "NibbleTrieModel") (hr : meth.sig.returnType = (some .int)) (hlk : meth.locks = false) {out : Int32} : ∀ (n : Nat) (v0 : Nat) (v1 : Int32) (v2 : Int32) (v3 : Int32) (M : Mm) (H : Heap) (locs : List Loc) (ls : Array Slot), K v0 = 9 → lv_has ls 4 [(0, .ref v0), (1, .int v1), (2, .int v2), (3, .int v3)] → Wd E K G L M s.heap H locs s → f_MO_member_5 G n v0 v1 v2 v3 M = some out → W p l e rm_MO_member s m args below meth c H locs 0 0 (MQ below (QI E K G L s.heap.size out M) args s 0 0 (AL L s.heap.size)) (F0 m 5 ls []) := by
  have hx := hX.1
  have hb := hX.2.1
  have hown := hX.2.2.2.1
  have hts := hX.2.2.2.2
  intro n
  induction n with
  | zero => intro _ _ _ _ _ _ _ _ _ _ _ h; rw [f_MO_member_5] at h; cases h
  | succ n ih =>
    intro v0 v1 v2 v3 M H locs ls hv0 hl hWd h
    rw [f_MO_member_5] at h
    refine lv_iload_n hx hb d_MO_member_5 rfl (lv_at hl 3 rfl) ?_
    refine lv_bipush (v := 16) hx hb d_MO_member_6 (by decide) ?_
    refine lv_iload_n hx hb d_MO_member_8 rfl (lv_at hl 1 rfl) ?_
    refine lv_imul hx hb d_MO_member_9 ?_
    refine lv_aload_n hx hb d_MO_member_10 rfl (lv_at hl 0 rfl) ?_
    refine g_MO_sizes hX t_414 hWd hv0 d_MO_member_11 ?_
    have q1 := v_MO_sizes hWd hv0
    refine lv_iload_n hx hb d_MO_member_14 rfl (lv_at hl 1 rfl) ?_
    obtain ⟨j2, hj2, h⟩ := ob h
    refine r_iald hX hWd q1 hj2 d_MO_member_15 ?_
    refine lv_iadd hx hb d_MO_member_16 ?_
    refine lv_icmp_ge (tgt := 41) hx hb d_MO_member_17 (by decide) (fun hc => ?_) (fun hc => ?_)
    · replace h := ifP h hc
      refine lv_iconst (v := (-1)) hx hb d_MO_member_41 (by decide) ?_
      obtain rfl := Option.some.inj h
      exact e_iret hX hr hlk hWd d_MO_member_42
    · replace h := ifN h hc
      refine lv_aload_n hx hb d_MO_member_20 rfl (lv_at hl 0 rfl) ?_
      refine g_MO_keys hX t_412 hWd hv0 d_MO_member_21 ?_
      have q3 := v_MO_keys hWd hv0
      refine lv_iload_n hx hb d_MO_member_24 rfl (lv_at hl 3 rfl) ?_
      obtain ⟨j4, hj4, h⟩ := ob h
      refine r_iald hX hWd q3 hj4 d_MO_member_25 ?_
      refine lv_iload_n hx hb d_MO_member_26 rfl (lv_at hl 2 rfl) ?_
      refine kp_z (va_runS (As := [.int (gi M (gr M v0 0) j4), .int v2]) (rest := []) hX (m_MO_begins l  (gi M (gr M v0 0) j4) v2 rfl) (cb_MO_begins hts t_509 ⟨Nat.le_of_ble_eq_true rfl, Nat.le_of_ble_eq_true rfl⟩) preEq rfl rfl hl.1 rfl (lv_room (Nat.le_of_ble_eq_true rfl)) d_MO_member_27 ⟨Nat.zero_le _, Nat.zero_le _⟩) (fun z5 => ?_)
      refine lv_if_eq (tgt := 35) hx hb d_MO_member_30 (by decide) (fun hc => ?_) (fun hc => ?_)
      · replace h := ifP h hc
        refine lv_iinc (k := 3) (v := (v3 + 1)) (lv' := [(3, .int (v3 + 1)), (0, .ref v0), (1, .int v1), (2, .int v2)]) hx hb d_MO_member_35 hl rfl (by rfl) (by decide) rfl (fun ls hl => ?_)
        refine lv_goto (tgt := 5) hx hb d_MO_member_38 (by decide) ?_
        exact ih v0 v1 v2 (v3 + 1) M _ _ _ hv0 (lv_sub hl [1, 2, 3, 0] rfl) hWd h
      · replace h := ifN h hc
        refine lv_iload_n hx hb d_MO_member_33 rfl (lv_at hl 3 rfl) ?_
        obtain rfl := Option.some.inj h
        exact e_iret hX hr hlk hWd d_MO_member_34
set_option maxHeartbeats 4000000 in
set_option maxRecDepth 100000 in
theorem m_MO_member (l : Launch) {E : En} {K G : Nat → Nat} {L : List Nat} {M : Mm} {sz : Nat} {out : Int32} (v0 : Nat) (v1 : Int32) (v2 : Int32) (hv0 : K v0 = 9) (h : f_MO_member G v0 v1 v2 M = some out) : Met l y_MO_member w_MO_member rm_MO_member (va_Pc [.ref v0, .int v1, .int v2] (Wp E K G L M sz)) (QI E K G L sz out M) 0 0 (AL L sz) := by
  refine Met.ofW (cc := b_MO_member) (maxL := 4) (ret := (some .int)) (by decide) rfl ?_
  intro p e s m av below meth c s₁ B hml hv
  obtain ⟨rfl, hWp⟩ := hv
  have hWd := Wd.start hWp
  obtain ⟨rfl, -⟩ := hWp
  have hX : CallFix p m c b_MO_member 4 s _ w_MO_member "NibbleTrieModel" := ⟨B.exec, B.bytes, hml, findClass_of_methodNamed B.named, atoms_spec (ws := w_MO_member) B.pre⟩
  have hx := hX.1
  have hb := hX.2.1
  have hown := hX.2.2.2.1
  have hts := hX.2.2.2.2
  have hr := B.returns
  have hlk := B.notSynchronized
  have hl := lv_entry ([.ref v0, .int v1, .int v2]) (n := 4) (Nat.le_of_ble_eq_true rfl)
  rw [lg_entry_eq]
  generalize (lg_sl ([.ref v0, .int v1, .int v2]) ++ List.replicate (4 - (lg_sl ([.ref v0, .int v1, .int v2])).length) Slot.unset).toArray = ls at hl ⊢
  have hl : lv_has ls 4 [(0, .ref v0), (1, .int v1), (2, .int v2)] := hl
  unfold f_MO_member at h
  refine lv_bipush (v := 16) hx hb d_MO_member_0 (by decide) ?_
  refine lv_iload_n hx hb d_MO_member_2 rfl (lv_at hl 1 rfl) ?_
  refine lv_imul hx hb d_MO_member_3 ?_
  refine lv_istore_n (lv' := [(3, .int (16 * v1)), (0, .ref v0), (1, .int v1), (2, .int v2)]) hx hb d_MO_member_4 rfl hl (by decide) rfl (fun ls hl => ?_)
  exact w_MO_member_5 hX hr hlk FU v0 v1 v2 (16 * v1) M _ _ _ hv0 (lv_sub hl [1, 2, 3, 0] rfl) hWd h
set_option maxHeartbeats 4000000 in
set_option maxRecDepth 100000 in
theorem w_MO_common_35 {p : Program} {l : Launch} {e : Env} {s : State} {m : MethodId} {args : Array Value} {below : List Frame} {meth : Method} {c : Code} {E : En} {K G : Nat → Nat} {L : List Nat} (hX : CallFix p m c b_MO_common 9 s args w_MO_common "NibbleTrieModel") (hr : meth.sig.returnType = (some .int)) (hlk : meth.locks = false) {out : Int32} : ∀ (n : Nat) (v0 : Nat) (v1 : Int32) (v3 : Int32) (v4 : Int32) (v5 : Int32) (v6 : Int32) (M : Mm) (H : Heap) (locs : List Loc) (ls : Array Slot), K v0 = 9 → lv_has ls 9 [(0, .ref v0), (1, .int v1), (3, .int v3), (4, .int v4), (5, .int v5), (6, .int v6)] → Wd E K G L M s.heap H locs s → f_MO_common_35 G n v0 v1 v3 v4 v5 v6 M = some out → W p l e rm_MO_common s m args below meth c H locs 0 0 (MQ below (QI E K G L s.heap.size out M) args s 0 0 (AL L s.heap.size)) (F0 m 35 ls []) := by
  have hx := hX.1
  have hb := hX.2.1
  have hown := hX.2.2.2.1
  have hts := hX.2.2.2.2
  intro n
  induction n with
  | zero => intro _ _ _ _ _ _ _ _ _ _ _ _ _ h; rw [f_MO_common_35] at h; cases h
  | succ n ih =>
    intro v0 v1 v3 v4 v5 v6 M H locs ls hv0 hl hWd h
    rw [f_MO_common_35] at h
    refine lv_iload hx hb d_MO_common_35 (lv_at hl 5 rfl) ?_
    refine lv_if_lt (tgt := 79) hx hb d_MO_common_37 (by decide) (fun hc => ?_) (fun hc => ?_)
    · replace h := ifP h hc
      refine lv_iload hx hb d_MO_common_79 (lv_at hl 4 rfl) ?_
      obtain rfl := Option.some.inj h
      exact e_iret hX hr hlk hWd d_MO_common_81
    · replace h := ifN h hc
      refine lv_iload hx hb d_MO_common_40 (lv_at hl 3 rfl) ?_
      refine lv_iconst (v := 4) hx hb d_MO_common_42 (by decide) ?_
      refine lv_iload hx hb d_MO_common_43 (lv_at hl 5 rfl) ?_
      refine lv_imul hx hb d_MO_common_45 ?_
      refine lv_ishr hx hb d_MO_common_46 ?_
      refine lv_topi (fun x1 ex1 => ?_)
      replace h := stA h ex1
      refine lv_istore (lv' := [(7, .int x1), (0, .ref v0), (1, .int v1), (3, .int v3), (4, .int v4), (5, .int v5), (6, .int v6)]) hx hb d_MO_common_47 hl (by decide) rfl (fun ls hl => ?_)
      refine lv_aload_n hx hb d_MO_common_49 rfl (lv_at hl 1 rfl) ?_
      refine lv_iload_n hx hb d_MO_common_50 rfl (lv_at hl 2 rfl) ?_
      refine lv_iload hx hb d_MO_common_51 (lv_at hl 0 rfl) ?_
      obtain ⟨q2, hq2, h⟩ := ob h
      refine kc_i (va_runV (As := [.int v1, .int x1]) (rest := []) hX (m_MO_members l  v0 v1 x1 hv0 hq2) (cb_MO_members hts t_505 ⟨Nat.le_of_ble_eq_true rfl, Nat.le_of_ble_eq_true rfl⟩) (pv_MO hWd hv0) rfl rfl hl.1 rfl (lv_room (Nat.le_of_ble_eq_true rfl)) d_MO_common_53 ⟨Nat.zero_le _, Nat.zero_le _⟩) hWd (fun H locs hWd => ?_)
      refine lv_istore (lv' := [(8, .int q2), (7, .int x1), (0, .ref v0), (1, .int v1), (3, .int v3), (4, .int v4), (5, .int v5), (6, .int v6)]) hx hb d_MO_common_56 hl (by decide) rfl (fun ls hl => ?_)
      refine lv_iload hx hb d_MO_common_58 (lv_at hl 0 rfl) ?_
      refine lv_iload_n hx hb d_MO_common_60 rfl (lv_at hl 4 rfl) ?_
      refine lv_icmp_ne (tgt := 69) hx hb d_MO_common_61 (by decide) (fun hc => ?_) (fun hc => ?_)
      · replace h := ifN h hc
        refine lv_iload hx hb d_MO_common_69 (lv_at hl 6 rfl) ?_
        refine lv_istore (lv' := [(5, .int v5), (8, .int q2), (7, .int x1), (0, .ref v0), (1, .int v1), (3, .int v3), (4, .int v4), (6, .int v6)]) hx hb d_MO_common_71 hl (by decide) rfl (fun ls hl => ?_)
        refine lv_iinc (k := 7) (v := (v6 + (-1))) (lv' := [(6, .int (v6 + (-1))), (5, .int v5), (8, .int q2), (7, .int x1), (0, .ref v0), (1, .int v1), (3, .int v3), (4, .int v4)]) hx hb d_MO_common_73 hl rfl (by rfl) (by decide) rfl (fun ls hl => ?_)
        refine lv_goto (tgt := 35) hx hb d_MO_common_76 (by decide) ?_
        exact ih v0 v1 v3 v4 v5 (v6 + (-1)) M _ _ _ hv0 (lv_sub hl [4, 5, 6, 7, 1, 0] rfl) hWd h
      · replace h := ifP h hc
        refine lv_iload hx hb d_MO_common_64 (lv_at hl 1 rfl) ?_
        refine lv_goto (tgt := 71) hx hb d_MO_common_66 (by decide) ?_
        refine lv_istore (lv' := [(5, .int x1), (8, .int q2), (7, .int x1), (0, .ref v0), (1, .int v1), (3, .int v3), (4, .int v4), (6, .int v6)]) hx hb d_MO_common_71 hl (by decide) rfl (fun ls hl => ?_)
        refine lv_iinc (k := 7) (v := (v6 + (-1))) (lv' := [(6, .int (v6 + (-1))), (5, .int x1), (8, .int q2), (7, .int x1), (0, .ref v0), (1, .int v1), (3, .int v3), (4, .int v4)]) hx hb d_MO_common_73 hl rfl (by rfl) (by decide) rfl (fun ls hl => ?_)
        refine lv_goto (tgt := 35) hx hb d_MO_common_76 (by decide) ?_
        exact ih v0 v1 v3 v4 x1 (v6 + (-1)) M _ _ _ hv0 (lv_sub hl [4, 5, 6, 7, 1, 0] rfl) hWd h
set_option maxHeartbeats 4000000 in
set_option maxRecDepth 100000 in
theorem m_MO_common (l : Launch) {E : En} {K G : Nat → Nat} {L : List Nat} {M : Mm} {sz : Nat} {out : Int32} (v0 : Nat) (v1 : Int32) (v2 : Int32) (hv0 : K v0 = 9) (h : f_MO_common G v0 v1 v2 M = some out) : Met l y_MO_common w_MO_common rm_MO_common (va_Pc [.ref v0, .int v1, .int v2] (Wp E K G L M sz)) (QI E K G L sz out M) 0 0 (AL L sz) := by
  refine Met.ofW (cc := b_MO_common) (maxL := 9) (ret := (some .int)) (by decide) rfl ?_
  intro p e s m av below meth c s₁ B hml hv
  obtain ⟨rfl, hWp⟩ := hv
  have hWd := Wd.start hWp
  obtain ⟨rfl, -⟩ := hWp
  have hX : CallFix p m c b_MO_common 9 s _ w_MO_common "NibbleTrieModel" := ⟨B.exec, B.bytes, hml, findClass_of_methodNamed B.named, atoms_spec (ws := w_MO_common) B.pre⟩
  have hx := hX.1
  have hb := hX.2.1
  have hown := hX.2.2.2.1
  have hts := hX.2.2.2.2
  have hr := B.returns
  have hlk := B.notSynchronized
  have hl := lv_entry ([.ref v0, .int v1, .int v2]) (n := 9) (Nat.le_of_ble_eq_true rfl)
  rw [lg_entry_eq]
  generalize (lg_sl ([.ref v0, .int v1, .int v2]) ++ List.replicate (9 - (lg_sl ([.ref v0, .int v1, .int v2])).length) Slot.unset).toArray = ls at hl ⊢
  have hl : lv_has ls 9 [(0, .ref v0), (1, .int v1), (2, .int v2)] := hl
  unfold f_MO_common at h
  refine lv_aload_n hx hb d_MO_common_0 rfl (lv_at hl 0 rfl) ?_
  refine lv_iload_n hx hb d_MO_common_1 rfl (lv_at hl 1 rfl) ?_
  refine lv_iload_n hx hb d_MO_common_2 rfl (lv_at hl 2 rfl) ?_
  obtain ⟨q1, hq1, h⟩ := ob h
  refine kc_i (va_runV (As := [.int v1, .int v2]) (rest := []) hX (m_MO_members l  v0 v1 v2 hv0 hq1) (cb_MO_members hts t_505 ⟨Nat.le_of_ble_eq_true rfl, Nat.le_of_ble_eq_true rfl⟩) (pv_MO hWd hv0) rfl rfl hl.1 rfl (lv_room (Nat.le_of_ble_eq_true rfl)) d_MO_common_3 ⟨Nat.zero_le _, Nat.zero_le _⟩) hWd (fun H locs hWd => ?_)
  refine lv_istore_n (lv' := [(3, .int q1), (0, .ref v0), (1, .int v1), (2, .int v2)]) hx hb d_MO_common_6 rfl hl (by decide) rfl (fun ls hl => ?_)
  refine lv_aload_n hx hb d_MO_common_7 rfl (lv_at hl 1 rfl) ?_
  refine g_MO_keys hX t_412 hWd hv0 d_MO_common_8 ?_
  have q2 := v_MO_keys hWd hv0
  refine lv_aload_n hx hb d_MO_common_11 rfl (lv_at hl 1 rfl) ?_
  refine lv_iload_n hx hb d_MO_common_12 rfl (lv_at hl 2 rfl) ?_
  refine lv_iload_n hx hb d_MO_common_13 rfl (lv_at hl 3 rfl) ?_
  obtain ⟨q3, hq3, h⟩ := ob h
  refine kc_i (va_runV (As := [.int v1, .int v2]) (rest := [.ref (gr M v0 0)]) hX (m_MO_member l  v0 v1 v2 hv0 hq3) (cb_MO_member hts t_516 ⟨Nat.le_of_ble_eq_true rfl, Nat.le_of_ble_eq_true rfl⟩) (pv_MO hWd hv0) rfl rfl hl.1 rfl (lv_room (Nat.le_of_ble_eq_true rfl)) d_MO_common_14 ⟨Nat.zero_le _, Nat.zero_le _⟩) hWd (fun H locs hWd => ?_)
  obtain ⟨j4, hj4, h⟩ := ob h
  refine r_iald hX hWd q2 hj4 d_MO_common_17 ?_
  refine lv_topi (fun x5 ex5 => ?_)
  replace h := stA h ex5
  refine lv_istore (lv' := [(4, .int x5), (3, .int q1), (0, .ref v0), (1, .int v1), (2, .int v2)]) hx hb d_MO_common_18 hl (by decide) rfl (fun ls hl => ?_)
  refine lv_iload_n hx hb d_MO_common_20 rfl (lv_at hl 4 rfl) ?_
  refine lv_istore (lv' := [(5, .int v2), (4, .int x5), (3, .int q1), (0, .ref v0), (1, .int v1), (2, .int v2)]) hx hb d_MO_common_21 hl (by decide) rfl (fun ls hl => ?_)
  refine lv_iload hx hb d_MO_common_23 (lv_at hl 1 rfl) ?_
  refine kp_i (va_runS (As := [.int x5]) (rest := []) hX (m_MO_nibbles l  x5 rfl) (cb_MO_nibbles hts t_468 ⟨Nat.le_of_ble_eq_true rfl, Nat.le_of_ble_eq_true rfl⟩) preEq rfl rfl hl.1 rfl (lv_room (Nat.le_of_ble_eq_true rfl)) d_MO_common_25 ⟨Nat.zero_le _, Nat.zero_le _⟩) ?_
  refine lv_iload_n hx hb d_MO_common_28 rfl (lv_at hl 5 rfl) ?_
  refine kp_i (va_runS (As := [.int v2]) (rest := [.int (f_MO_nibbles x5)]) hX (m_MO_nibbles l  v2 rfl) (cb_MO_nibbles hts t_468 ⟨Nat.le_of_ble_eq_true rfl, Nat.le_of_ble_eq_true rfl⟩) preEq rfl rfl hl.1 rfl (lv_room (Nat.le_of_ble_eq_true rfl)) d_MO_common_29 ⟨Nat.zero_le _, Nat.zero_le _⟩) ?_
  refine lv_isub hx hb d_MO_common_32 ?_
  refine lv_topi (fun x6 ex6 => ?_)
  replace h := stA h ex6
  refine lv_istore (lv' := [(6, .int x6), (5, .int v2), (4, .int x5), (3, .int q1), (0, .ref v0), (1, .int v1), (2, .int v2)]) hx hb d_MO_common_33 hl (by decide) rfl (fun ls hl => ?_)
  exact w_MO_common_35 hX hr hlk FU v0 v1 q1 x5 v2 x6 M _ _ _ hv0 (lv_sub hl [4, 5, 3, 2, 1, 0] rfl) hWd h
set_option maxHeartbeats 4000000 in
set_option maxRecDepth 100000 in
theorem m_MO_isBranch (l : Launch) {E : En} {K G : Nat → Nat} {L : List Nat} {M : Mm} {sz : Nat} {out : Int32} (v0 : Nat) (v1 : Int32) (v2 : Int32) (hv0 : K v0 = 9) (h : f_MO_isBranch G v0 v1 v2 M = some out) : Met l y_MO_isBranch w_MO_isBranch rm_MO_isBranch (va_Pc [.ref v0, .int v1, .int v2] (Wp E K G L M sz)) (QZ E K G L sz out M) 0 0 (AL L sz) := by
  refine Met.ofW (cc := b_MO_isBranch) (maxL := 4) (ret := (some .boolean)) (by decide) rfl ?_
  intro p e s m av below meth c s₁ B hml hv
  obtain ⟨rfl, hWp⟩ := hv
  have hWd := Wd.start hWp
  obtain ⟨rfl, -⟩ := hWp
  have hX : CallFix p m c b_MO_isBranch 4 s _ w_MO_isBranch "NibbleTrieModel" := ⟨B.exec, B.bytes, hml, findClass_of_methodNamed B.named, atoms_spec (ws := w_MO_isBranch) B.pre⟩
  have hx := hX.1
  have hb := hX.2.1
  have hown := hX.2.2.2.1
  have hts := hX.2.2.2.2
  have hr := B.returns
  have hlk := B.notSynchronized
  have hl := lv_entry ([.ref v0, .int v1, .int v2]) (n := 4) (Nat.le_of_ble_eq_true rfl)
  rw [lg_entry_eq]
  generalize (lg_sl ([.ref v0, .int v1, .int v2]) ++ List.replicate (4 - (lg_sl ([.ref v0, .int v1, .int v2])).length) Slot.unset).toArray = ls at hl ⊢
  have hl : lv_has ls 4 [(0, .ref v0), (1, .int v1), (2, .int v2)] := hl
  unfold f_MO_isBranch at h
  refine lv_aload_n hx hb d_MO_isBranch_0 rfl (lv_at hl 0 rfl) ?_
  refine lv_iload_n hx hb d_MO_isBranch_1 rfl (lv_at hl 1 rfl) ?_
  refine lv_iload_n hx hb d_MO_isBranch_2 rfl (lv_at hl 2 rfl) ?_
  obtain ⟨q1, hq1, h⟩ := ob h
  refine kc_i (va_runV (As := [.int v1, .int v2]) (rest := []) hX (m_MO_members l  v0 v1 v2 hv0 hq1) (cb_MO_members hts t_505 ⟨Nat.le_of_ble_eq_true rfl, Nat.le_of_ble_eq_true rfl⟩) (pv_MO hWd hv0) rfl rfl hl.1 rfl (lv_room (Nat.le_of_ble_eq_true rfl)) d_MO_isBranch_3 ⟨Nat.zero_le _, Nat.zero_le _⟩) hWd (fun H locs hWd => ?_)
  refine lv_istore_n (lv' := [(3, .int q1), (0, .ref v0), (1, .int v1), (2, .int v2)]) hx hb d_MO_isBranch_6 rfl hl (by decide) rfl (fun ls hl => ?_)
  refine lv_iload_n hx hb d_MO_isBranch_7 rfl (lv_at hl 0 rfl) ?_
  refine lv_iconst (v := 1) hx hb d_MO_isBranch_8 (by decide) ?_
  refine lv_icmp_le (tgt := 26) hx hb d_MO_isBranch_9 (by decide) (fun hc => ?_) (fun hc => ?_)
  · replace h := ifP h hc
    refine lv_iconst (v := 0) hx hb d_MO_isBranch_26 (by decide) ?_
    obtain rfl := Option.some.inj h
    exact e_zret hX hr hlk hWd (Or.inl rfl) d_MO_isBranch_27
  · replace h := ifN h hc
    refine lv_aload_n hx hb d_MO_isBranch_12 rfl (lv_at hl 1 rfl) ?_
    refine lv_iload_n hx hb d_MO_isBranch_13 rfl (lv_at hl 2 rfl) ?_
    refine lv_iload_n hx hb d_MO_isBranch_14 rfl (lv_at hl 3 rfl) ?_
    obtain ⟨q2, hq2, h⟩ := ob h
    refine kc_i (va_runV (As := [.int v1, .int v2]) (rest := []) hX (m_MO_common l  v0 v1 v2 hv0 hq2) (cb_MO_common hts t_512 ⟨Nat.le_of_ble_eq_true rfl, Nat.le_of_ble_eq_true rfl⟩) (pv_MO hWd hv0) rfl rfl hl.1 rfl (lv_room (Nat.le_of_ble_eq_true rfl)) d_MO_isBranch_15 ⟨Nat.zero_le _, Nat.zero_le _⟩) hWd (fun H locs hWd => ?_)
    refine lv_iload_n hx hb d_MO_isBranch_18 rfl (lv_at hl 3 rfl) ?_
    refine lv_icmp_ne (tgt := 26) hx hb d_MO_isBranch_19 (by decide) (fun hc => ?_) (fun hc => ?_)
    · replace h := ifN h hc
      refine lv_iconst (v := 0) hx hb d_MO_isBranch_26 (by decide) ?_
      obtain rfl := Option.some.inj h
      exact e_zret hX hr hlk hWd (Or.inl rfl) d_MO_isBranch_27
    · replace h := ifP h hc
      refine lv_iconst (v := 1) hx hb d_MO_isBranch_22 (by decide) ?_
      refine lv_goto (tgt := 27) hx hb d_MO_isBranch_23 (by decide) ?_
      obtain rfl := Option.some.inj h
      exact e_zret hX hr hlk hWd (Or.inr rfl) d_MO_isBranch_27
set_option maxHeartbeats 4000000 in
set_option maxRecDepth 100000 in
theorem w_MO_place_5 {p : Program} {l : Launch} {e : Env} {s : State} {m : MethodId} {args : Array Value} {below : List Frame} {meth : Method} {c : Code} {E : En} {K G : Nat → Nat} {L : List Nat} (hX : CallFix p m c b_MO_place 4 s args w_MO_place "NibbleTrieModel") (hr : meth.sig.returnType = (some .int)) (hlk : meth.locks = false) {out : Int32} : ∀ (n : Nat) (v0 : Nat) (v1 : Int32) (v2 : Int32) (v3 : Int32) (M : Mm) (H : Heap) (locs : List Loc) (ls : Array Slot), K v0 = 9 → lv_has ls 4 [(0, .ref v0), (1, .int v1), (2, .int v2), (3, .int v3)] → Wd E K G L M s.heap H locs s → f_MO_place_5 G n v0 v1 v2 v3 M = some out → W p l e rm_MO_place s m args below meth c H locs 0 0 (MQ below (QI E K G L s.heap.size out M) args s 0 0 (AL L s.heap.size)) (F0 m 5 ls []) := by
  have hx := hX.1
  have hb := hX.2.1
  have hown := hX.2.2.2.1
  have hts := hX.2.2.2.2
  intro n
  induction n with
  | zero => intro _ _ _ _ _ _ _ _ _ _ _ h; rw [f_MO_place_5] at h; cases h
  | succ n ih =>
    intro v0 v1 v2 v3 M H locs ls hv0 hl hWd h
    rw [f_MO_place_5] at h
    refine lv_iload_n hx hb d_MO_place_5 rfl (lv_at hl 3 rfl) ?_
    refine lv_bipush (v := 16) hx hb d_MO_place_6 (by decide) ?_
    refine lv_iload_n hx hb d_MO_place_8 rfl (lv_at hl 1 rfl) ?_
    refine lv_imul hx hb d_MO_place_9 ?_
    refine lv_aload_n hx hb d_MO_place_10 rfl (lv_at hl 0 rfl) ?_
    refine g_MO_branches hX t_419 hWd hv0 d_MO_place_11 ?_
    have q1 := v_MO_branches hWd hv0
    refine lv_iload_n hx hb d_MO_place_14 rfl (lv_at hl 1 rfl) ?_
    obtain ⟨j2, hj2, h⟩ := ob h
    refine r_iald hX hWd q1 hj2 d_MO_place_15 ?_
    refine lv_iadd hx hb d_MO_place_16 ?_
    refine lv_icmp_ge (tgt := 38) hx hb d_MO_place_17 (by decide) (fun hc => ?_) (fun hc => ?_)
    · replace h := ifP h hc
      refine lv_iconst (v := (-1)) hx hb d_MO_place_38 (by decide) ?_
      obtain rfl := Option.some.inj h
      exact e_iret hX hr hlk hWd d_MO_place_39
    · replace h := ifN h hc
      refine lv_aload_n hx hb d_MO_place_20 rfl (lv_at hl 0 rfl) ?_
      refine g_MO_branch hX t_417 hWd hv0 d_MO_place_21 ?_
      have q3 := v_MO_branch hWd hv0
      refine lv_iload_n hx hb d_MO_place_24 rfl (lv_at hl 3 rfl) ?_
      obtain ⟨j4, hj4, h⟩ := ob h
      refine r_iald hX hWd q3 hj4 d_MO_place_25 ?_
      refine lv_iload_n hx hb d_MO_place_26 rfl (lv_at hl 2 rfl) ?_
      refine lv_icmp_ne (tgt := 32) hx hb d_MO_place_27 (by decide) (fun hc => ?_) (fun hc => ?_)
      · replace h := ifN h hc
        refine lv_iinc (k := 3) (v := (v3 + 1)) (lv' := [(3, .int (v3 + 1)), (0, .ref v0), (1, .int v1), (2, .int v2)]) hx hb d_MO_place_32 hl rfl (by rfl) (by decide) rfl (fun ls hl => ?_)
        refine lv_goto (tgt := 5) hx hb d_MO_place_35 (by decide) ?_
        exact ih v0 v1 v2 (v3 + 1) M _ _ _ hv0 (lv_sub hl [1, 2, 3, 0] rfl) hWd h
      · replace h := ifP h hc
        refine lv_iload_n hx hb d_MO_place_30 rfl (lv_at hl 3 rfl) ?_
        obtain rfl := Option.some.inj h
        exact e_iret hX hr hlk hWd d_MO_place_31
set_option maxHeartbeats 4000000 in
set_option maxRecDepth 100000 in
theorem m_MO_place (l : Launch) {E : En} {K G : Nat → Nat} {L : List Nat} {M : Mm} {sz : Nat} {out : Int32} (v0 : Nat) (v1 : Int32) (v2 : Int32) (hv0 : K v0 = 9) (h : f_MO_place G v0 v1 v2 M = some out) : Met l y_MO_place w_MO_place rm_MO_place (va_Pc [.ref v0, .int v1, .int v2] (Wp E K G L M sz)) (QI E K G L sz out M) 0 0 (AL L sz) := by
  refine Met.ofW (cc := b_MO_place) (maxL := 4) (ret := (some .int)) (by decide) rfl ?_
  intro p e s m av below meth c s₁ B hml hv
  obtain ⟨rfl, hWp⟩ := hv
  have hWd := Wd.start hWp
  obtain ⟨rfl, -⟩ := hWp
  have hX : CallFix p m c b_MO_place 4 s _ w_MO_place "NibbleTrieModel" := ⟨B.exec, B.bytes, hml, findClass_of_methodNamed B.named, atoms_spec (ws := w_MO_place) B.pre⟩
  have hx := hX.1
  have hb := hX.2.1
  have hown := hX.2.2.2.1
  have hts := hX.2.2.2.2
  have hr := B.returns
  have hlk := B.notSynchronized
  have hl := lv_entry ([.ref v0, .int v1, .int v2]) (n := 4) (Nat.le_of_ble_eq_true rfl)
  rw [lg_entry_eq]
  generalize (lg_sl ([.ref v0, .int v1, .int v2]) ++ List.replicate (4 - (lg_sl ([.ref v0, .int v1, .int v2])).length) Slot.unset).toArray = ls at hl ⊢
  have hl : lv_has ls 4 [(0, .ref v0), (1, .int v1), (2, .int v2)] := hl
  unfold f_MO_place at h
  refine lv_bipush (v := 16) hx hb d_MO_place_0 (by decide) ?_
  refine lv_iload_n hx hb d_MO_place_2 rfl (lv_at hl 1 rfl) ?_
  refine lv_imul hx hb d_MO_place_3 ?_
  refine lv_istore_n (lv' := [(3, .int (16 * v1)), (0, .ref v0), (1, .int v1), (2, .int v2)]) hx hb d_MO_place_4 rfl hl (by decide) rfl (fun ls hl => ?_)
  exact w_MO_place_5 hX hr hlk FU v0 v1 v2 (16 * v1) M _ _ _ hv0 (lv_sub hl [1, 2, 3, 0] rfl) hWd h
set_option maxHeartbeats 4000000 in
set_option maxRecDepth 100000 in
theorem m_MO_say (l : Launch) {E : En} {K G : Nat → Nat} {L : List Nat} {M : Mm} {sz : Nat} {out : Mm} (v0 : Nat) (v1 : Int64) (hv0 : K v0 = 9) (h : f_MO_say G v0 v1 M = some out) : Met l y_MO_say w_MO_say rm_MO_say (va_Pc [.ref v0, .long v1] (Wp E K G L M sz)) (QV E K G L sz out) 0 0 (AL L sz) := by
  refine Met.ofW (cc := b_MO_say) (maxL := 3) (ret := none) (by decide) rfl ?_
  intro p e s m av below meth c s₁ B hml hv
  obtain ⟨rfl, hWp⟩ := hv
  have hWd := Wd.start hWp
  obtain ⟨rfl, -⟩ := hWp
  have hX : CallFix p m c b_MO_say 3 s _ w_MO_say "NibbleTrieModel" := ⟨B.exec, B.bytes, hml, findClass_of_methodNamed B.named, atoms_spec (ws := w_MO_say) B.pre⟩
  have hx := hX.1
  have hb := hX.2.1
  have hown := hX.2.2.2.1
  have hts := hX.2.2.2.2
  have hr := B.returns
  have hlk := B.notSynchronized
  have hl := lv_entry ([.ref v0, .long v1]) (n := 3) (Nat.le_of_ble_eq_true rfl)
  rw [lg_entry_eq]
  generalize (lg_sl ([.ref v0, .long v1]) ++ List.replicate (3 - (lg_sl ([.ref v0, .long v1])).length) Slot.unset).toArray = ls at hl ⊢
  have hl : lv_has ls 3 [(0, .ref v0), (1, .long v1)] := hl
  unfold f_MO_say at h
  refine lv_aload_n hx hb d_MO_say_0 rfl (lv_at hl 0 rfl) ?_
  refine g_MO_words hX t_420 hWd hv0 d_MO_say_1 ?_
  have q1 := v_MO_words hWd hv0
  refine lv_aload_n hx hb d_MO_say_4 rfl (lv_at hl 0 rfl) ?_
  refine g_MO_length hX t_421 hWd hv0 d_MO_say_5 ?_
  refine lv_lload_n hx hb d_MO_say_8 rfl (lv_at hl 1 rfl) ?_
  obtain ⟨j2, hj2, h⟩ := ob h
  refine r_last hX hWd q1 hj2 d_MO_say_9 (fun H locs hWd => ?_)
  obtain ⟨M3, eM3, h⟩ := stE h
  rw [← eM3] at hWd
  refine lv_aload_n hx hb d_MO_say_10 rfl (lv_at hl 0 rfl) ?_
  refine lv_dup hx hb d_MO_say_11 rfl ?_
  refine g_MO_length hX t_421 hWd hv0 d_MO_say_12 ?_
  refine lv_iconst (v := 1) hx hb d_MO_say_15 (by decide) ?_
  refine lv_iadd hx hb d_MO_say_16 ?_
  refine p_MO_length hX t_421 hWd hv0 d_MO_say_17 (fun H locs hWd => ?_)
  obtain ⟨M4, eM4, h⟩ := stE h
  rw [← eM4] at hWd
  obtain rfl := Option.some.inj h
  exact e_vret hX hr hlk hWd d_MO_say_20
set_option maxHeartbeats 4000000 in
set_option maxRecDepth 100000 in
theorem m_MO_reference (l : Launch) {E : En} {K G : Nat → Nat} {L : List Nat} {M : Mm} {sz : Nat} {out : Mm} (v0 : Nat) (v1 : Int32) (v2 : Int32) (v3 : Int32) (hv0 : K v0 = 9) (h : f_MO_reference G v0 v1 v2 v3 M = some out) : Met l y_MO_reference w_MO_reference rm_MO_reference (va_Pc [.ref v0, .int v1, .int v2, .int v3] (Wp E K G L M sz)) (QV E K G L sz out) 0 0 (AL L sz) := by
  refine Met.ofW (cc := b_MO_reference) (maxL := 6) (ret := none) (by decide) rfl ?_
  intro p e s m av below meth c s₁ B hml hv
  obtain ⟨rfl, hWp⟩ := hv
  have hWd := Wd.start hWp
  obtain ⟨rfl, -⟩ := hWp
  have hX : CallFix p m c b_MO_reference 6 s _ w_MO_reference "NibbleTrieModel" := ⟨B.exec, B.bytes, hml, findClass_of_methodNamed B.named, atoms_spec (ws := w_MO_reference) B.pre⟩
  have hx := hX.1
  have hb := hX.2.1
  have hown := hX.2.2.2.1
  have hts := hX.2.2.2.2
  have hr := B.returns
  have hlk := B.notSynchronized
  have hl := lv_entry ([.ref v0, .int v1, .int v2, .int v3]) (n := 6) (Nat.le_of_ble_eq_true rfl)
  rw [lg_entry_eq]
  generalize (lg_sl ([.ref v0, .int v1, .int v2, .int v3]) ++ List.replicate (6 - (lg_sl ([.ref v0, .int v1, .int v2, .int v3])).length) Slot.unset).toArray = ls at hl ⊢
  have hl : lv_has ls 6 [(0, .ref v0), (1, .int v1), (2, .int v2), (3, .int v3)] := hl
  unfold f_MO_reference at h
  refine lv_aload_n hx hb d_MO_reference_0 rfl (lv_at hl 0 rfl) ?_
  refine lv_iload_n hx hb d_MO_reference_1 rfl (lv_at hl 1 rfl) ?_
  refine lv_iload_n hx hb d_MO_reference_2 rfl (lv_at hl 2 rfl) ?_
  obtain ⟨q1, hq1, h⟩ := ob h
  refine kc_i (va_runV (As := [.int v1, .int v2]) (rest := []) hX (m_MO_members l  v0 v1 v2 hv0 hq1) (cb_MO_members hts t_505 ⟨Nat.le_of_ble_eq_true rfl, Nat.le_of_ble_eq_true rfl⟩) (pv_MO hWd hv0) rfl rfl hl.1 rfl (lv_room (Nat.le_of_ble_eq_true rfl)) d_MO_reference_3 ⟨Nat.zero_le _, Nat.zero_le _⟩) hWd (fun H locs hWd => ?_)
  refine lv_istore (lv' := [(4, .int q1), (0, .ref v0), (1, .int v1), (2, .int v2), (3, .int v3)]) hx hb d_MO_reference_6 hl (by decide) rfl (fun ls hl => ?_)
  refine lv_iload hx hb d_MO_reference_8 (lv_at hl 0 rfl) ?_
  refine lv_if_ne (tgt := 23) hx hb d_MO_reference_10 (by decide) (fun hc => ?_) (fun hc => ?_)
  · replace h := ifN h hc
    refine lv_iload hx hb d_MO_reference_23 (lv_at hl 0 rfl) ?_
    refine lv_iconst (v := 1) hx hb d_MO_reference_25 (by decide) ?_
    refine lv_icmp_ne (tgt := 83) hx hb d_MO_reference_26 (by decide) (fun hc => ?_) (fun hc => ?_)
    · replace h := ifN h hc
      refine lv_aload_n hx hb d_MO_reference_83 rfl (lv_at hl 1 rfl) ?_
      refine lv_iload_n hx hb d_MO_reference_84 rfl (lv_at hl 2 rfl) ?_
      refine lv_iload_n hx hb d_MO_reference_85 rfl (lv_at hl 3 rfl) ?_
      obtain ⟨q2, hq2, h⟩ := ob h
      refine kc_i (va_runV (As := [.int v1, .int v2]) (rest := []) hX (m_MO_common l  v0 v1 v2 hv0 hq2) (cb_MO_common hts t_512 ⟨Nat.le_of_ble_eq_true rfl, Nat.le_of_ble_eq_true rfl⟩) (pv_MO hWd hv0) rfl rfl hl.1 rfl (lv_room (Nat.le_of_ble_eq_true rfl)) d_MO_reference_86 ⟨Nat.zero_le _, Nat.zero_le _⟩) hWd (fun H locs hWd => ?_)
      refine lv_istore (lv' := [(5, .int q2), (4, .int q1), (0, .ref v0), (1, .int v1), (2, .int v2), (3, .int v3)]) hx hb d_MO_reference_89 hl (by decide) rfl (fun ls hl => ?_)
      refine lv_iload_n hx hb d_MO_reference_91 rfl (lv_at hl 5 rfl) ?_
      refine lv_if_eq (tgt := 112) hx hb d_MO_reference_92 (by decide) (fun hc => ?_) (fun hc => ?_)
      · replace h := ifP h hc
        refine lv_iload hx hb d_MO_reference_112 (lv_at hl 0 rfl) ?_
        refine lv_iload_n hx hb d_MO_reference_114 rfl (lv_at hl 4 rfl) ?_
        refine lv_icmp_eq (tgt := 133) hx hb d_MO_reference_115 (by decide) (fun hc => ?_) (fun hc => ?_)
        · replace h := ifP h hc
          refine lv_aload_n hx hb d_MO_reference_133 rfl (lv_at hl 2 rfl) ?_
          refine lv_aload_n hx hb d_MO_reference_134 rfl (lv_at hl 2 rfl) ?_
          refine g_MO_digest hX t_418 hWd hv0 d_MO_reference_135 ?_
          have q3 := v_MO_digest hWd hv0
          refine lv_aload_n hx hb d_MO_reference_138 rfl (lv_at hl 2 rfl) ?_
          refine lv_iload_n hx hb d_MO_reference_139 rfl (lv_at hl 3 rfl) ?_
          refine lv_iload hx hb d_MO_reference_140 (lv_at hl 0 rfl) ?_
          obtain ⟨q4, hq4, h⟩ := ob h
          refine kc_i (va_runV (As := [.int v1, .int q2]) (rest := [.ref (gr M v0 6), .ref v0]) hX (m_MO_place l  v0 v1 q2 hv0 hq4) (cb_MO_place hts t_497 ⟨Nat.le_of_ble_eq_true rfl, Nat.le_of_ble_eq_true rfl⟩) (pv_MO hWd hv0) rfl rfl hl.1 rfl (lv_room (Nat.le_of_ble_eq_true rfl)) d_MO_reference_142 ⟨Nat.zero_le _, Nat.zero_le _⟩) hWd (fun H locs hWd => ?_)
          obtain ⟨j5, hj5, h⟩ := ob h
          refine r_lald hX hWd q3 hj5 d_MO_reference_145 ?_
          obtain ⟨q6, hq6, h⟩ := ob h
          refine kc_v (va_runV (As := [.long (gl M (gr M v0 6) j5)]) (rest := []) hX (m_MO_say l  v0 (gl M (gr M v0 6) j5) hv0 hq6) (cb_MO_say hts t_528 ⟨Nat.le_of_ble_eq_true rfl, Nat.le_of_ble_eq_true rfl⟩) (pv_MO hWd hv0) rfl rfl hl.1 rfl (lv_room (Nat.le_of_ble_eq_true rfl)) d_MO_reference_146 ⟨Nat.zero_le _, Nat.zero_le _⟩) hWd (fun H locs hWd => ?_)
          obtain rfl := Option.some.inj h
          exact e_vret hX hr hlk hWd d_MO_reference_149
        · replace h := ifN h hc
          refine lv_aload_n hx hb d_MO_reference_118 rfl (lv_at hl 2 rfl) ?_
          refine lv_ldc2 (v := 2) hx hb hown (hts _ (List.mem_cons_of_mem _ t_532)) d_MO_reference_119 ?_
          refine lv_iload hx hb d_MO_reference_122 (lv_at hl 0 rfl) ?_
          refine lv_iload_n hx hb d_MO_reference_124 rfl (lv_at hl 4 rfl) ?_
          refine kp_i (va_runS (As := [.int q2, .int v2]) (rest := [.long 2, .ref v0]) hX (m_MO_behind l  q2 v2 rfl) (cb_MO_behind hts t_533 ⟨Nat.le_of_ble_eq_true rfl, Nat.le_of_ble_eq_true rfl⟩) preEq rfl rfl hl.1 rfl (lv_room (Nat.le_of_ble_eq_true rfl)) d_MO_reference_125 ⟨Nat.zero_le _, Nat.zero_le _⟩) ?_
          refine lv_i2l hx hb d_MO_reference_128 rfl ?_
          refine lv_lmul hx hb d_MO_reference_129 ?_
          obtain ⟨q7, hq7, h⟩ := ob h
          refine kc_v (va_runV (As := [.long (2 * ((f_MO_behind q2 v2).toInt64))]) (rest := []) hX (m_MO_say l  v0 (2 * ((f_MO_behind q2 v2).toInt64)) hv0 hq7) (cb_MO_say hts t_528 ⟨Nat.le_of_ble_eq_true rfl, Nat.le_of_ble_eq_true rfl⟩) (pv_MO hWd hv0) rfl rfl hl.1 rfl (lv_room (Nat.le_of_ble_eq_true rfl)) d_MO_reference_130 ⟨Nat.zero_le _, Nat.zero_le _⟩) hWd (fun H locs hWd => ?_)
          refine lv_aload_n hx hb d_MO_reference_133 rfl (lv_at hl 2 rfl) ?_
          refine lv_aload_n hx hb d_MO_reference_134 rfl (lv_at hl 2 rfl) ?_
          refine g_MO_digest hX t_418 hWd hv0 d_MO_reference_135 ?_
          have q8 := v_MO_digest hWd hv0
          refine lv_aload_n hx hb d_MO_reference_138 rfl (lv_at hl 2 rfl) ?_
          refine lv_iload_n hx hb d_MO_reference_139 rfl (lv_at hl 3 rfl) ?_
          refine lv_iload hx hb d_MO_reference_140 (lv_at hl 0 rfl) ?_
          obtain ⟨q9, hq9, h⟩ := ob h
          refine kc_i (va_runV (As := [.int v1, .int q2]) (rest := [.ref (gr q7 v0 6), .ref v0]) hX (m_MO_place l  v0 v1 q2 hv0 hq9) (cb_MO_place hts t_497 ⟨Nat.le_of_ble_eq_true rfl, Nat.le_of_ble_eq_true rfl⟩) (pv_MO hWd hv0) rfl rfl hl.1 rfl (lv_room (Nat.le_of_ble_eq_true rfl)) d_MO_reference_142 ⟨Nat.zero_le _, Nat.zero_le _⟩) hWd (fun H locs hWd => ?_)
          obtain ⟨j10, hj10, h⟩ := ob h
          refine r_lald hX hWd q8 hj10 d_MO_reference_145 ?_
          obtain ⟨q11, hq11, h⟩ := ob h
          refine kc_v (va_runV (As := [.long (gl q7 (gr q7 v0 6) j10)]) (rest := []) hX (m_MO_say l  v0 (gl q7 (gr q7 v0 6) j10) hv0 hq11) (cb_MO_say hts t_528 ⟨Nat.le_of_ble_eq_true rfl, Nat.le_of_ble_eq_true rfl⟩) (pv_MO hWd hv0) rfl rfl hl.1 rfl (lv_room (Nat.le_of_ble_eq_true rfl)) d_MO_reference_146 ⟨Nat.zero_le _, Nat.zero_le _⟩) hWd (fun H locs hWd => ?_)
          obtain rfl := Option.some.inj h
          exact e_vret hX hr hlk hWd d_MO_reference_149
      · replace h := ifN h hc
        refine lv_aload_n hx hb d_MO_reference_95 rfl (lv_at hl 2 rfl) ?_
        refine lv_iload hx hb d_MO_reference_96 (lv_at hl 0 rfl) ?_
        refine lv_iload_n hx hb d_MO_reference_98 rfl (lv_at hl 4 rfl) ?_
        refine lv_icmp_ne (tgt := 106) hx hb d_MO_reference_99 (by decide) (fun hc => ?_) (fun hc => ?_)
        · replace h := ifN h hc
          refine lv_ldc2 (v := 2) hx hb hown (hts _ (List.mem_cons_of_mem _ t_532)) d_MO_reference_106 ?_
          obtain ⟨q12, hq12, h⟩ := ob h
          refine kc_v (va_runV (As := [.long 2]) (rest := []) hX (m_MO_say l  v0 2 hv0 hq12) (cb_MO_say hts t_528 ⟨Nat.le_of_ble_eq_true rfl, Nat.le_of_ble_eq_true rfl⟩) (pv_MO hWd hv0) rfl rfl hl.1 rfl (lv_room (Nat.le_of_ble_eq_true rfl)) d_MO_reference_109 ⟨Nat.zero_le _, Nat.zero_le _⟩) hWd (fun H locs hWd => ?_)
          refine lv_iload hx hb d_MO_reference_112 (lv_at hl 0 rfl) ?_
          refine lv_iload_n hx hb d_MO_reference_114 rfl (lv_at hl 4 rfl) ?_
          refine lv_icmp_eq (tgt := 133) hx hb d_MO_reference_115 (by decide) (fun hc => ?_) (fun hc => ?_)
          · replace h := ifP h hc
            refine lv_aload_n hx hb d_MO_reference_133 rfl (lv_at hl 2 rfl) ?_
            refine lv_aload_n hx hb d_MO_reference_134 rfl (lv_at hl 2 rfl) ?_
            refine g_MO_digest hX t_418 hWd hv0 d_MO_reference_135 ?_
            have q13 := v_MO_digest hWd hv0
            refine lv_aload_n hx hb d_MO_reference_138 rfl (lv_at hl 2 rfl) ?_
            refine lv_iload_n hx hb d_MO_reference_139 rfl (lv_at hl 3 rfl) ?_
            refine lv_iload hx hb d_MO_reference_140 (lv_at hl 0 rfl) ?_
            obtain ⟨q14, hq14, h⟩ := ob h
            refine kc_i (va_runV (As := [.int v1, .int q2]) (rest := [.ref (gr q12 v0 6), .ref v0]) hX (m_MO_place l  v0 v1 q2 hv0 hq14) (cb_MO_place hts t_497 ⟨Nat.le_of_ble_eq_true rfl, Nat.le_of_ble_eq_true rfl⟩) (pv_MO hWd hv0) rfl rfl hl.1 rfl (lv_room (Nat.le_of_ble_eq_true rfl)) d_MO_reference_142 ⟨Nat.zero_le _, Nat.zero_le _⟩) hWd (fun H locs hWd => ?_)
            obtain ⟨j15, hj15, h⟩ := ob h
            refine r_lald hX hWd q13 hj15 d_MO_reference_145 ?_
            obtain ⟨q16, hq16, h⟩ := ob h
            refine kc_v (va_runV (As := [.long (gl q12 (gr q12 v0 6) j15)]) (rest := []) hX (m_MO_say l  v0 (gl q12 (gr q12 v0 6) j15) hv0 hq16) (cb_MO_say hts t_528 ⟨Nat.le_of_ble_eq_true rfl, Nat.le_of_ble_eq_true rfl⟩) (pv_MO hWd hv0) rfl rfl hl.1 rfl (lv_room (Nat.le_of_ble_eq_true rfl)) d_MO_reference_146 ⟨Nat.zero_le _, Nat.zero_le _⟩) hWd (fun H locs hWd => ?_)
            obtain rfl := Option.some.inj h
            exact e_vret hX hr hlk hWd d_MO_reference_149
          · replace h := ifN h hc
            refine lv_aload_n hx hb d_MO_reference_118 rfl (lv_at hl 2 rfl) ?_
            refine lv_ldc2 (v := 2) hx hb hown (hts _ (List.mem_cons_of_mem _ t_532)) d_MO_reference_119 ?_
            refine lv_iload hx hb d_MO_reference_122 (lv_at hl 0 rfl) ?_
            refine lv_iload_n hx hb d_MO_reference_124 rfl (lv_at hl 4 rfl) ?_
            refine kp_i (va_runS (As := [.int q2, .int v2]) (rest := [.long 2, .ref v0]) hX (m_MO_behind l  q2 v2 rfl) (cb_MO_behind hts t_533 ⟨Nat.le_of_ble_eq_true rfl, Nat.le_of_ble_eq_true rfl⟩) preEq rfl rfl hl.1 rfl (lv_room (Nat.le_of_ble_eq_true rfl)) d_MO_reference_125 ⟨Nat.zero_le _, Nat.zero_le _⟩) ?_
            refine lv_i2l hx hb d_MO_reference_128 rfl ?_
            refine lv_lmul hx hb d_MO_reference_129 ?_
            obtain ⟨q17, hq17, h⟩ := ob h
            refine kc_v (va_runV (As := [.long (2 * ((f_MO_behind q2 v2).toInt64))]) (rest := []) hX (m_MO_say l  v0 (2 * ((f_MO_behind q2 v2).toInt64)) hv0 hq17) (cb_MO_say hts t_528 ⟨Nat.le_of_ble_eq_true rfl, Nat.le_of_ble_eq_true rfl⟩) (pv_MO hWd hv0) rfl rfl hl.1 rfl (lv_room (Nat.le_of_ble_eq_true rfl)) d_MO_reference_130 ⟨Nat.zero_le _, Nat.zero_le _⟩) hWd (fun H locs hWd => ?_)
            refine lv_aload_n hx hb d_MO_reference_133 rfl (lv_at hl 2 rfl) ?_
            refine lv_aload_n hx hb d_MO_reference_134 rfl (lv_at hl 2 rfl) ?_
            refine g_MO_digest hX t_418 hWd hv0 d_MO_reference_135 ?_
            have q18 := v_MO_digest hWd hv0
            refine lv_aload_n hx hb d_MO_reference_138 rfl (lv_at hl 2 rfl) ?_
            refine lv_iload_n hx hb d_MO_reference_139 rfl (lv_at hl 3 rfl) ?_
            refine lv_iload hx hb d_MO_reference_140 (lv_at hl 0 rfl) ?_
            obtain ⟨q19, hq19, h⟩ := ob h
            refine kc_i (va_runV (As := [.int v1, .int q2]) (rest := [.ref (gr q17 v0 6), .ref v0]) hX (m_MO_place l  v0 v1 q2 hv0 hq19) (cb_MO_place hts t_497 ⟨Nat.le_of_ble_eq_true rfl, Nat.le_of_ble_eq_true rfl⟩) (pv_MO hWd hv0) rfl rfl hl.1 rfl (lv_room (Nat.le_of_ble_eq_true rfl)) d_MO_reference_142 ⟨Nat.zero_le _, Nat.zero_le _⟩) hWd (fun H locs hWd => ?_)
            obtain ⟨j20, hj20, h⟩ := ob h
            refine r_lald hX hWd q18 hj20 d_MO_reference_145 ?_
            obtain ⟨q21, hq21, h⟩ := ob h
            refine kc_v (va_runV (As := [.long (gl q17 (gr q17 v0 6) j20)]) (rest := []) hX (m_MO_say l  v0 (gl q17 (gr q17 v0 6) j20) hv0 hq21) (cb_MO_say hts t_528 ⟨Nat.le_of_ble_eq_true rfl, Nat.le_of_ble_eq_true rfl⟩) (pv_MO hWd hv0) rfl rfl hl.1 rfl (lv_room (Nat.le_of_ble_eq_true rfl)) d_MO_reference_146 ⟨Nat.zero_le _, Nat.zero_le _⟩) hWd (fun H locs hWd => ?_)
            obtain rfl := Option.some.inj h
            exact e_vret hX hr hlk hWd d_MO_reference_149
        · replace h := ifP h hc
          refine lv_lconst (v := 1) hx hb d_MO_reference_102 (by decide) ?_
          refine lv_goto (tgt := 109) hx hb d_MO_reference_103 (by decide) ?_
          obtain ⟨q22, hq22, h⟩ := ob h
          refine kc_v (va_runV (As := [.long 1]) (rest := []) hX (m_MO_say l  v0 1 hv0 hq22) (cb_MO_say hts t_528 ⟨Nat.le_of_ble_eq_true rfl, Nat.le_of_ble_eq_true rfl⟩) (pv_MO hWd hv0) rfl rfl hl.1 rfl (lv_room (Nat.le_of_ble_eq_true rfl)) d_MO_reference_109 ⟨Nat.zero_le _, Nat.zero_le _⟩) hWd (fun H locs hWd => ?_)
          refine lv_iload hx hb d_MO_reference_112 (lv_at hl 0 rfl) ?_
          refine lv_iload_n hx hb d_MO_reference_114 rfl (lv_at hl 4 rfl) ?_
          refine lv_icmp_eq (tgt := 133) hx hb d_MO_reference_115 (by decide) (fun hc => ?_) (fun hc => ?_)
          · replace h := ifP h hc
            refine lv_aload_n hx hb d_MO_reference_133 rfl (lv_at hl 2 rfl) ?_
            refine lv_aload_n hx hb d_MO_reference_134 rfl (lv_at hl 2 rfl) ?_
            refine g_MO_digest hX t_418 hWd hv0 d_MO_reference_135 ?_
            have q23 := v_MO_digest hWd hv0
            refine lv_aload_n hx hb d_MO_reference_138 rfl (lv_at hl 2 rfl) ?_
            refine lv_iload_n hx hb d_MO_reference_139 rfl (lv_at hl 3 rfl) ?_
            refine lv_iload hx hb d_MO_reference_140 (lv_at hl 0 rfl) ?_
            obtain ⟨q24, hq24, h⟩ := ob h
            refine kc_i (va_runV (As := [.int v1, .int q2]) (rest := [.ref (gr q22 v0 6), .ref v0]) hX (m_MO_place l  v0 v1 q2 hv0 hq24) (cb_MO_place hts t_497 ⟨Nat.le_of_ble_eq_true rfl, Nat.le_of_ble_eq_true rfl⟩) (pv_MO hWd hv0) rfl rfl hl.1 rfl (lv_room (Nat.le_of_ble_eq_true rfl)) d_MO_reference_142 ⟨Nat.zero_le _, Nat.zero_le _⟩) hWd (fun H locs hWd => ?_)
            obtain ⟨j25, hj25, h⟩ := ob h
            refine r_lald hX hWd q23 hj25 d_MO_reference_145 ?_
            obtain ⟨q26, hq26, h⟩ := ob h
            refine kc_v (va_runV (As := [.long (gl q22 (gr q22 v0 6) j25)]) (rest := []) hX (m_MO_say l  v0 (gl q22 (gr q22 v0 6) j25) hv0 hq26) (cb_MO_say hts t_528 ⟨Nat.le_of_ble_eq_true rfl, Nat.le_of_ble_eq_true rfl⟩) (pv_MO hWd hv0) rfl rfl hl.1 rfl (lv_room (Nat.le_of_ble_eq_true rfl)) d_MO_reference_146 ⟨Nat.zero_le _, Nat.zero_le _⟩) hWd (fun H locs hWd => ?_)
            obtain rfl := Option.some.inj h
            exact e_vret hX hr hlk hWd d_MO_reference_149
          · replace h := ifN h hc
            refine lv_aload_n hx hb d_MO_reference_118 rfl (lv_at hl 2 rfl) ?_
            refine lv_ldc2 (v := 2) hx hb hown (hts _ (List.mem_cons_of_mem _ t_532)) d_MO_reference_119 ?_
            refine lv_iload hx hb d_MO_reference_122 (lv_at hl 0 rfl) ?_
            refine lv_iload_n hx hb d_MO_reference_124 rfl (lv_at hl 4 rfl) ?_
            refine kp_i (va_runS (As := [.int q2, .int v2]) (rest := [.long 2, .ref v0]) hX (m_MO_behind l  q2 v2 rfl) (cb_MO_behind hts t_533 ⟨Nat.le_of_ble_eq_true rfl, Nat.le_of_ble_eq_true rfl⟩) preEq rfl rfl hl.1 rfl (lv_room (Nat.le_of_ble_eq_true rfl)) d_MO_reference_125 ⟨Nat.zero_le _, Nat.zero_le _⟩) ?_
            refine lv_i2l hx hb d_MO_reference_128 rfl ?_
            refine lv_lmul hx hb d_MO_reference_129 ?_
            obtain ⟨q27, hq27, h⟩ := ob h
            refine kc_v (va_runV (As := [.long (2 * ((f_MO_behind q2 v2).toInt64))]) (rest := []) hX (m_MO_say l  v0 (2 * ((f_MO_behind q2 v2).toInt64)) hv0 hq27) (cb_MO_say hts t_528 ⟨Nat.le_of_ble_eq_true rfl, Nat.le_of_ble_eq_true rfl⟩) (pv_MO hWd hv0) rfl rfl hl.1 rfl (lv_room (Nat.le_of_ble_eq_true rfl)) d_MO_reference_130 ⟨Nat.zero_le _, Nat.zero_le _⟩) hWd (fun H locs hWd => ?_)
            refine lv_aload_n hx hb d_MO_reference_133 rfl (lv_at hl 2 rfl) ?_
            refine lv_aload_n hx hb d_MO_reference_134 rfl (lv_at hl 2 rfl) ?_
            refine g_MO_digest hX t_418 hWd hv0 d_MO_reference_135 ?_
            have q28 := v_MO_digest hWd hv0
            refine lv_aload_n hx hb d_MO_reference_138 rfl (lv_at hl 2 rfl) ?_
            refine lv_iload_n hx hb d_MO_reference_139 rfl (lv_at hl 3 rfl) ?_
            refine lv_iload hx hb d_MO_reference_140 (lv_at hl 0 rfl) ?_
            obtain ⟨q29, hq29, h⟩ := ob h
            refine kc_i (va_runV (As := [.int v1, .int q2]) (rest := [.ref (gr q27 v0 6), .ref v0]) hX (m_MO_place l  v0 v1 q2 hv0 hq29) (cb_MO_place hts t_497 ⟨Nat.le_of_ble_eq_true rfl, Nat.le_of_ble_eq_true rfl⟩) (pv_MO hWd hv0) rfl rfl hl.1 rfl (lv_room (Nat.le_of_ble_eq_true rfl)) d_MO_reference_142 ⟨Nat.zero_le _, Nat.zero_le _⟩) hWd (fun H locs hWd => ?_)
            obtain ⟨j30, hj30, h⟩ := ob h
            refine r_lald hX hWd q28 hj30 d_MO_reference_145 ?_
            obtain ⟨q31, hq31, h⟩ := ob h
            refine kc_v (va_runV (As := [.long (gl q27 (gr q27 v0 6) j30)]) (rest := []) hX (m_MO_say l  v0 (gl q27 (gr q27 v0 6) j30) hv0 hq31) (cb_MO_say hts t_528 ⟨Nat.le_of_ble_eq_true rfl, Nat.le_of_ble_eq_true rfl⟩) (pv_MO hWd hv0) rfl rfl hl.1 rfl (lv_room (Nat.le_of_ble_eq_true rfl)) d_MO_reference_146 ⟨Nat.zero_le _, Nat.zero_le _⟩) hWd (fun H locs hWd => ?_)
            obtain rfl := Option.some.inj h
            exact e_vret hX hr hlk hWd d_MO_reference_149
    · replace h := ifP h hc
      refine lv_aload_n hx hb d_MO_reference_29 rfl (lv_at hl 1 rfl) ?_
      refine lv_iload_n hx hb d_MO_reference_30 rfl (lv_at hl 2 rfl) ?_
      refine lv_iload_n hx hb d_MO_reference_31 rfl (lv_at hl 3 rfl) ?_
      obtain ⟨q32, hq32, h⟩ := ob h
      refine kc_i (va_runV (As := [.int v1, .int v2]) (rest := []) hX (m_MO_member l  v0 v1 v2 hv0 hq32) (cb_MO_member hts t_516 ⟨Nat.le_of_ble_eq_true rfl, Nat.le_of_ble_eq_true rfl⟩) (pv_MO hWd hv0) rfl rfl hl.1 rfl (lv_room (Nat.le_of_ble_eq_true rfl)) d_MO_reference_32 ⟨Nat.zero_le _, Nat.zero_le _⟩) hWd (fun H locs hWd => ?_)
      refine lv_istore (lv' := [(5, .int q32), (4, .int q1), (0, .ref v0), (1, .int v1), (2, .int v2), (3, .int v3)]) hx hb d_MO_reference_35 hl (by decide) rfl (fun ls hl => ?_)
      refine lv_iload_n hx hb d_MO_reference_37 rfl (lv_at hl 5 rfl) ?_
      refine lv_if_eq (tgt := 48) hx hb d_MO_reference_38 (by decide) (fun hc => ?_) (fun hc => ?_)
      · replace h := ifP h hc
        refine lv_aload_n hx hb d_MO_reference_48 rfl (lv_at hl 2 rfl) ?_
        refine lv_ldc2 (v := 2) hx hb hown (hts _ (List.mem_cons_of_mem _ t_532)) d_MO_reference_49 ?_
        refine lv_aload_n hx hb d_MO_reference_52 rfl (lv_at hl 2 rfl) ?_
        refine g_MO_keys hX t_412 hWd hv0 d_MO_reference_53 ?_
        have q33 := v_MO_keys hWd hv0
        refine lv_iload hx hb d_MO_reference_56 (lv_at hl 0 rfl) ?_
        obtain ⟨j34, hj34, h⟩ := ob h
        refine r_iald hX hWd q33 hj34 d_MO_reference_58 ?_
        refine lv_iload_n hx hb d_MO_reference_59 rfl (lv_at hl 4 rfl) ?_
        refine kp_i (va_runS (As := [.int (gi M (gr M v0 0) j34), .int v2]) (rest := [.long 2, .ref v0]) hX (m_MO_behind l  (gi M (gr M v0 0) j34) v2 rfl) (cb_MO_behind hts t_533 ⟨Nat.le_of_ble_eq_true rfl, Nat.le_of_ble_eq_true rfl⟩) preEq rfl rfl hl.1 rfl (lv_room (Nat.le_of_ble_eq_true rfl)) d_MO_reference_60 ⟨Nat.zero_le _, Nat.zero_le _⟩) ?_
        refine lv_i2l hx hb d_MO_reference_63 rfl ?_
        refine lv_lmul hx hb d_MO_reference_64 ?_
        refine lv_lconst (v := 1) hx hb d_MO_reference_65 (by decide) ?_
        refine lv_ladd hx hb d_MO_reference_66 ?_
        obtain ⟨q35, hq35, h⟩ := ob h
        refine kc_v (va_runV (As := [.long ((2 * ((f_MO_behind (gi M (gr M v0 0) j34) v2).toInt64)) + 1)]) (rest := []) hX (m_MO_say l  v0 ((2 * ((f_MO_behind (gi M (gr M v0 0) j34) v2).toInt64)) + 1) hv0 hq35) (cb_MO_say hts t_528 ⟨Nat.le_of_ble_eq_true rfl, Nat.le_of_ble_eq_true rfl⟩) (pv_MO hWd hv0) rfl rfl hl.1 rfl (lv_room (Nat.le_of_ble_eq_true rfl)) d_MO_reference_67 ⟨Nat.zero_le _, Nat.zero_le _⟩) hWd (fun H locs hWd => ?_)
        refine lv_aload_n hx hb d_MO_reference_70 rfl (lv_at hl 2 rfl) ?_
        refine lv_aload_n hx hb d_MO_reference_71 rfl (lv_at hl 2 rfl) ?_
        refine g_MO_values hX t_413 hWd hv0 d_MO_reference_72 ?_
        have q36 := v_MO_values hWd hv0
        refine lv_iload hx hb d_MO_reference_75 (lv_at hl 0 rfl) ?_
        obtain ⟨j37, hj37, h⟩ := ob h
        refine r_iald hX hWd q36 hj37 d_MO_reference_77 ?_
        refine lv_i2l hx hb d_MO_reference_78 rfl ?_
        obtain ⟨q38, hq38, h⟩ := ob h
        refine kc_v (va_runV (As := [.long ((gi q35 (gr q35 v0 1) j37).toInt64)]) (rest := []) hX (m_MO_say l  v0 ((gi q35 (gr q35 v0 1) j37).toInt64) hv0 hq38) (cb_MO_say hts t_528 ⟨Nat.le_of_ble_eq_true rfl, Nat.le_of_ble_eq_true rfl⟩) (pv_MO hWd hv0) rfl rfl hl.1 rfl (lv_room (Nat.le_of_ble_eq_true rfl)) d_MO_reference_79 ⟨Nat.zero_le _, Nat.zero_le _⟩) hWd (fun H locs hWd => ?_)
        obtain rfl := Option.some.inj h
        exact e_vret hX hr hlk hWd d_MO_reference_82
      · replace h := ifN h hc
        refine lv_aload_n hx hb d_MO_reference_41 rfl (lv_at hl 2 rfl) ?_
        refine lv_ldc2 (v := 2) hx hb hown (hts _ (List.mem_cons_of_mem _ t_532)) d_MO_reference_42 ?_
        obtain ⟨q39, hq39, h⟩ := ob h
        refine kc_v (va_runV (As := [.long 2]) (rest := []) hX (m_MO_say l  v0 2 hv0 hq39) (cb_MO_say hts t_528 ⟨Nat.le_of_ble_eq_true rfl, Nat.le_of_ble_eq_true rfl⟩) (pv_MO hWd hv0) rfl rfl hl.1 rfl (lv_room (Nat.le_of_ble_eq_true rfl)) d_MO_reference_45 ⟨Nat.zero_le _, Nat.zero_le _⟩) hWd (fun H locs hWd => ?_)
        refine lv_aload_n hx hb d_MO_reference_48 rfl (lv_at hl 2 rfl) ?_
        refine lv_ldc2 (v := 2) hx hb hown (hts _ (List.mem_cons_of_mem _ t_532)) d_MO_reference_49 ?_
        refine lv_aload_n hx hb d_MO_reference_52 rfl (lv_at hl 2 rfl) ?_
        refine g_MO_keys hX t_412 hWd hv0 d_MO_reference_53 ?_
        have q40 := v_MO_keys hWd hv0
        refine lv_iload hx hb d_MO_reference_56 (lv_at hl 0 rfl) ?_
        obtain ⟨j41, hj41, h⟩ := ob h
        refine r_iald hX hWd q40 hj41 d_MO_reference_58 ?_
        refine lv_iload_n hx hb d_MO_reference_59 rfl (lv_at hl 4 rfl) ?_
        refine kp_i (va_runS (As := [.int (gi q39 (gr q39 v0 0) j41), .int v2]) (rest := [.long 2, .ref v0]) hX (m_MO_behind l  (gi q39 (gr q39 v0 0) j41) v2 rfl) (cb_MO_behind hts t_533 ⟨Nat.le_of_ble_eq_true rfl, Nat.le_of_ble_eq_true rfl⟩) preEq rfl rfl hl.1 rfl (lv_room (Nat.le_of_ble_eq_true rfl)) d_MO_reference_60 ⟨Nat.zero_le _, Nat.zero_le _⟩) ?_
        refine lv_i2l hx hb d_MO_reference_63 rfl ?_
        refine lv_lmul hx hb d_MO_reference_64 ?_
        refine lv_lconst (v := 1) hx hb d_MO_reference_65 (by decide) ?_
        refine lv_ladd hx hb d_MO_reference_66 ?_
        obtain ⟨q42, hq42, h⟩ := ob h
        refine kc_v (va_runV (As := [.long ((2 * ((f_MO_behind (gi q39 (gr q39 v0 0) j41) v2).toInt64)) + 1)]) (rest := []) hX (m_MO_say l  v0 ((2 * ((f_MO_behind (gi q39 (gr q39 v0 0) j41) v2).toInt64)) + 1) hv0 hq42) (cb_MO_say hts t_528 ⟨Nat.le_of_ble_eq_true rfl, Nat.le_of_ble_eq_true rfl⟩) (pv_MO hWd hv0) rfl rfl hl.1 rfl (lv_room (Nat.le_of_ble_eq_true rfl)) d_MO_reference_67 ⟨Nat.zero_le _, Nat.zero_le _⟩) hWd (fun H locs hWd => ?_)
        refine lv_aload_n hx hb d_MO_reference_70 rfl (lv_at hl 2 rfl) ?_
        refine lv_aload_n hx hb d_MO_reference_71 rfl (lv_at hl 2 rfl) ?_
        refine g_MO_values hX t_413 hWd hv0 d_MO_reference_72 ?_
        have q43 := v_MO_values hWd hv0
        refine lv_iload hx hb d_MO_reference_75 (lv_at hl 0 rfl) ?_
        obtain ⟨j44, hj44, h⟩ := ob h
        refine r_iald hX hWd q43 hj44 d_MO_reference_77 ?_
        refine lv_i2l hx hb d_MO_reference_78 rfl ?_
        obtain ⟨q45, hq45, h⟩ := ob h
        refine kc_v (va_runV (As := [.long ((gi q42 (gr q42 v0 1) j44).toInt64)]) (rest := []) hX (m_MO_say l  v0 ((gi q42 (gr q42 v0 1) j44).toInt64) hv0 hq45) (cb_MO_say hts t_528 ⟨Nat.le_of_ble_eq_true rfl, Nat.le_of_ble_eq_true rfl⟩) (pv_MO hWd hv0) rfl rfl hl.1 rfl (lv_room (Nat.le_of_ble_eq_true rfl)) d_MO_reference_79 ⟨Nat.zero_le _, Nat.zero_le _⟩) hWd (fun H locs hWd => ?_)
        obtain rfl := Option.some.inj h
        exact e_vret hX hr hlk hWd d_MO_reference_82
  · replace h := ifP h hc
    refine lv_iload_n hx hb d_MO_reference_13 rfl (lv_at hl 4 rfl) ?_
    refine lv_if_eq (tgt := 22) hx hb d_MO_reference_14 (by decide) (fun hc => ?_) (fun hc => ?_)
    · replace h := ifP h hc
      obtain rfl := Option.some.inj h
      exact e_vret hX hr hlk hWd d_MO_reference_22
    · replace h := ifN h hc
      refine lv_aload_n hx hb d_MO_reference_17 rfl (lv_at hl 1 rfl) ?_
      refine lv_lconst (v := 0) hx hb d_MO_reference_18 (by decide) ?_
      obtain ⟨q46, hq46, h⟩ := ob h
      refine kc_v (va_runV (As := [.long 0]) (rest := []) hX (m_MO_say l  v0 0 hv0 hq46) (cb_MO_say hts t_528 ⟨Nat.le_of_ble_eq_true rfl, Nat.le_of_ble_eq_true rfl⟩) (pv_MO hWd hv0) rfl rfl hl.1 rfl (lv_room (Nat.le_of_ble_eq_true rfl)) d_MO_reference_19 ⟨Nat.zero_le _, Nat.zero_le _⟩) hWd (fun H locs hWd => ?_)
      obtain rfl := Option.some.inj h
      exact e_vret hX hr hlk hWd d_MO_reference_22
set_option maxHeartbeats 4000000 in
set_option maxRecDepth 100000 in
theorem w_MO_encode_2 {p : Program} {l : Launch} {e : Env} {s : State} {m : MethodId} {args : Array Value} {below : List Frame} {meth : Method} {c : Code} {E : En} {K G : Nat → Nat} {L : List Nat} (hX : CallFix p m c b_MO_encode 4 s args w_MO_encode "NibbleTrieModel") (hr : meth.sig.returnType = none) (hlk : meth.locks = false) {out : Mm} : ∀ (n : Nat) (v0 : Nat) (v1 : Int32) (v2 : Int32) (v3 : Int32) (M : Mm) (H : Heap) (locs : List Loc) (ls : Array Slot), K v0 = 9 → lv_has ls 4 [(0, .ref v0), (1, .int v1), (2, .int v2), (3, .int v3)] → Wd E K G L M s.heap H locs s → f_MO_encode_2 G n v0 v1 v2 v3 M = some out → W p l e rm_MO_encode s m args below meth c H locs 0 0 (MQ below (QV E K G L s.heap.size out) args s 0 0 (AL L s.heap.size)) (F0 m 2 ls []) := by
  have hx := hX.1
  have hb := hX.2.1
  have hown := hX.2.2.2.1
  have hts := hX.2.2.2.2
  intro n
  induction n with
  | zero => intro _ _ _ _ _ _ _ _ _ _ _ h; rw [f_MO_encode_2] at h; cases h
  | succ n ih =>
    intro v0 v1 v2 v3 M H locs ls hv0 hl hWd h
    rw [f_MO_encode_2] at h
    refine lv_iload_n hx hb d_MO_encode_2 rfl (lv_at hl 3 rfl) ?_
    refine lv_bipush (v := 16) hx hb d_MO_encode_3 (by decide) ?_
    refine lv_icmp_ge (tgt := 26) hx hb d_MO_encode_5 (by decide) (fun hc => ?_) (fun hc => ?_)
    · replace h := ifP h hc
      refine lv_aload_n hx hb d_MO_encode_26 rfl (lv_at hl 0 rfl) ?_
      refine lv_aload_n hx hb d_MO_encode_27 rfl (lv_at hl 0 rfl) ?_
      refine lv_iload_n hx hb d_MO_encode_28 rfl (lv_at hl 1 rfl) ?_
      refine lv_iload_n hx hb d_MO_encode_29 rfl (lv_at hl 2 rfl) ?_
      obtain ⟨q1, hq1, h⟩ := ob h
      refine kc_i (va_runV (As := [.int v1, .int v2]) (rest := [.ref v0]) hX (m_MO_valueIn l  v0 v1 v2 hv0 hq1) (cb_MO_valueIn hts t_481 ⟨Nat.le_of_ble_eq_true rfl, Nat.le_of_ble_eq_true rfl⟩) (pv_MO hWd hv0) rfl rfl hl.1 rfl (lv_room (Nat.le_of_ble_eq_true rfl)) d_MO_encode_30 ⟨Nat.zero_le _, Nat.zero_le _⟩) hWd (fun H locs hWd => ?_)
      refine lv_i2l hx hb d_MO_encode_33 rfl ?_
      obtain ⟨q2, hq2, h⟩ := ob h
      refine kc_v (va_runV (As := [.long (q1.toInt64)]) (rest := []) hX (m_MO_say l  v0 (q1.toInt64) hv0 hq2) (cb_MO_say hts t_528 ⟨Nat.le_of_ble_eq_true rfl, Nat.le_of_ble_eq_true rfl⟩) (pv_MO hWd hv0) rfl rfl hl.1 rfl (lv_room (Nat.le_of_ble_eq_true rfl)) d_MO_encode_34 ⟨Nat.zero_le _, Nat.zero_le _⟩) hWd (fun H locs hWd => ?_)
      obtain rfl := Option.some.inj h
      exact e_vret hX hr hlk hWd d_MO_encode_37
    · replace h := ifN h hc
      refine lv_aload_n hx hb d_MO_encode_8 rfl (lv_at hl 0 rfl) ?_
      refine lv_iload_n hx hb d_MO_encode_9 rfl (lv_at hl 1 rfl) ?_
      refine lv_bipush (v := 16) hx hb d_MO_encode_10 (by decide) ?_
      refine lv_iload_n hx hb d_MO_encode_12 rfl (lv_at hl 2 rfl) ?_
      refine lv_imul hx hb d_MO_encode_13 ?_
      refine lv_iload_n hx hb d_MO_encode_14 rfl (lv_at hl 3 rfl) ?_
      refine lv_iadd hx hb d_MO_encode_15 ?_
      refine lv_iconst (v := 1) hx hb d_MO_encode_16 (by decide) ?_
      obtain ⟨q3, hq3, h⟩ := ob h
      refine kc_v (va_runV (As := [.int v1, .int ((16 * v2) + v3), .int 1]) (rest := []) hX (m_MO_reference l  v0 v1 ((16 * v2) + v3) 1 hv0 hq3) (cb_MO_reference hts t_524 ⟨Nat.le_of_ble_eq_true rfl, Nat.le_of_ble_eq_true rfl⟩) (pv_MO hWd hv0) rfl rfl hl.1 rfl (lv_room (Nat.le_of_ble_eq_true rfl)) d_MO_encode_17 ⟨Nat.zero_le _, Nat.zero_le _⟩) hWd (fun H locs hWd => ?_)
      refine lv_iinc (k := 3) (v := (v3 + 1)) (lv' := [(3, .int (v3 + 1)), (0, .ref v0), (1, .int v1), (2, .int v2)]) hx hb d_MO_encode_20 hl rfl (by rfl) (by decide) rfl (fun ls hl => ?_)
      refine lv_goto (tgt := 2) hx hb d_MO_encode_23 (by decide) ?_
      exact ih v0 v1 v2 (v3 + 1) q3 _ _ _ hv0 (lv_sub hl [1, 2, 3, 0] rfl) hWd h
set_option maxHeartbeats 4000000 in
set_option maxRecDepth 100000 in
theorem m_MO_encode (l : Launch) {E : En} {K G : Nat → Nat} {L : List Nat} {M : Mm} {sz : Nat} {out : Mm} (v0 : Nat) (v1 : Int32) (v2 : Int32) (hv0 : K v0 = 9) (h : f_MO_encode G v0 v1 v2 M = some out) : Met l y_MO_encode w_MO_encode rm_MO_encode (va_Pc [.ref v0, .int v1, .int v2] (Wp E K G L M sz)) (QV E K G L sz out) 0 0 (AL L sz) := by
  refine Met.ofW (cc := b_MO_encode) (maxL := 4) (ret := none) (by decide) rfl ?_
  intro p e s m av below meth c s₁ B hml hv
  obtain ⟨rfl, hWp⟩ := hv
  have hWd := Wd.start hWp
  obtain ⟨rfl, -⟩ := hWp
  have hX : CallFix p m c b_MO_encode 4 s _ w_MO_encode "NibbleTrieModel" := ⟨B.exec, B.bytes, hml, findClass_of_methodNamed B.named, atoms_spec (ws := w_MO_encode) B.pre⟩
  have hx := hX.1
  have hb := hX.2.1
  have hown := hX.2.2.2.1
  have hts := hX.2.2.2.2
  have hr := B.returns
  have hlk := B.notSynchronized
  have hl := lv_entry ([.ref v0, .int v1, .int v2]) (n := 4) (Nat.le_of_ble_eq_true rfl)
  rw [lg_entry_eq]
  generalize (lg_sl ([.ref v0, .int v1, .int v2]) ++ List.replicate (4 - (lg_sl ([.ref v0, .int v1, .int v2])).length) Slot.unset).toArray = ls at hl ⊢
  have hl : lv_has ls 4 [(0, .ref v0), (1, .int v1), (2, .int v2)] := hl
  unfold f_MO_encode at h
  refine lv_iconst (v := 0) hx hb d_MO_encode_0 (by decide) ?_
  refine lv_istore_n (lv' := [(3, .int 0), (0, .ref v0), (1, .int v1), (2, .int v2)]) hx hb d_MO_encode_1 rfl hl (by decide) rfl (fun ls hl => ?_)
  exact w_MO_encode_2 hX hr hlk FU v0 v1 v2 0 M _ _ _ hv0 (lv_sub hl [1, 2, 3, 0] rfl) hWd h
