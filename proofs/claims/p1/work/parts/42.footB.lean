set_option maxHeartbeats 4000000 in
set_option maxRecDepth 100000 in
theorem fo_MO_copy_26 {K G O : Nat → Nat} {L : List Nat} {i : Nat} {out : Mm} : ∀ (n : Nat) (v0 : Nat) (v1 : Int32) (v2 : Int32) (v3 : Int32) (M : Mm), K v0 = 9 → O v0 = i → ZI K G O L M → f_MO_copy_26 G n v0 v1 v2 v3 M = some out → Zo K G O L i M out := by
  intro n
  induction n with
  | zero => intro _ _ _ _ _ _ _ _ h; rw [f_MO_copy_26] at h; cases h
  | succ n ih =>
    intro v0 v1 v2 v3 M hv0 ov0 hI h
    rw [f_MO_copy_26] at h
    have hZ := Zo.rf (i := i) hI
    rcases ifC h with ⟨_, h⟩ | ⟨_, h⟩
    · obtain rfl := Option.some.inj h
      exact hZ
    · have q1 := (u_MO_keys hZ.2.1 hv0)
      have oq1 := (o_MO_keys hZ.2.2 hv0 ov0)
      have q2 := (u_MO_keys hZ.2.1 hv0)
      have oq2 := (o_MO_keys hZ.2.2 hv0 ov0)
      obtain ⟨j3, hj3, h⟩ := ob h
      obtain ⟨j4, hj4, h⟩ := ob h
      obtain ⟨M5, eM5, h⟩ := stE h
      have hZ := z_si hZ eM5 oq1
      have q6 := (u_MO_values hZ.2.1 hv0)
      have oq6 := (o_MO_values hZ.2.2 hv0 ov0)
      have q7 := (u_MO_values hZ.2.1 hv0)
      have oq7 := (o_MO_values hZ.2.2 hv0 ov0)
      obtain ⟨j8, hj8, h⟩ := ob h
      obtain ⟨j9, hj9, h⟩ := ob h
      obtain ⟨M10, eM10, h⟩ := stE h
      have hZ := z_si hZ eM10 oq6
      have q11 := (u_MO_branch hZ.2.1 hv0)
      have oq11 := (o_MO_branch hZ.2.2 hv0 ov0)
      have q12 := (u_MO_branch hZ.2.1 hv0)
      have oq12 := (o_MO_branch hZ.2.2 hv0 ov0)
      obtain ⟨j13, hj13, h⟩ := ob h
      obtain ⟨j14, hj14, h⟩ := ob h
      obtain ⟨M15, eM15, h⟩ := stE h
      have hZ := z_si hZ eM15 oq11
      have q16 := (u_MO_digest hZ.2.1 hv0)
      have oq16 := (o_MO_digest hZ.2.2 hv0 ov0)
      have q17 := (u_MO_digest hZ.2.1 hv0)
      have oq17 := (o_MO_digest hZ.2.2 hv0 ov0)
      obtain ⟨j18, hj18, h⟩ := ob h
      obtain ⟨j19, hj19, h⟩ := ob h
      obtain ⟨M20, eM20, h⟩ := stE h
      have hZ := z_sl hZ eM20 oq16
      exact hZ.step (ih v0 v1 v2 (v3 + 1) M20 hv0 ov0 hZ.2 h)
set_option maxHeartbeats 4000000 in
set_option maxRecDepth 100000 in
theorem fo_MO_copy {K G O : Nat → Nat} {L : List Nat} {i : Nat} {out : Mm} (v0 : Nat) (v1 : Int32) (v2 : Int32) (M : Mm) (hv0 : K v0 = 9) (ov0 : O v0 = i) (hI : ZI K G O L M) (h : f_MO_copy G v0 v1 v2 M = some out) : Zo K G O L i M out := by
  unfold f_MO_copy at h
  have hZ := Zo.rf (i := i) hI
  have q1 := (u_MO_sizes hZ.2.1 hv0)
  have oq1 := (o_MO_sizes hZ.2.2 hv0 ov0)
  have q2 := (u_MO_sizes hZ.2.1 hv0)
  have oq2 := (o_MO_sizes hZ.2.2 hv0 ov0)
  obtain ⟨j3, hj3, h⟩ := ob h
  obtain ⟨j4, hj4, h⟩ := ob h
  obtain ⟨M5, eM5, h⟩ := stE h
  have hZ := z_si hZ eM5 oq1
  have q6 := (u_MO_branches hZ.2.1 hv0)
  have oq6 := (o_MO_branches hZ.2.2 hv0 ov0)
  have q7 := (u_MO_branches hZ.2.1 hv0)
  have oq7 := (o_MO_branches hZ.2.2 hv0 ov0)
  obtain ⟨j8, hj8, h⟩ := ob h
  obtain ⟨j9, hj9, h⟩ := ob h
  obtain ⟨M10, eM10, h⟩ := stE h
  have hZ := z_si hZ eM10 oq6
  exact hZ.step (fo_MO_copy_26 FU v0 v1 v2 0 M10 hv0 ov0 hZ.2 h)
set_option maxHeartbeats 4000000 in
set_option maxRecDepth 100000 in
theorem fo_MO_put {K G O : Nat → Nat} {L : List Nat} {i : Nat} {out : Int32 × Mm} (v0 : Nat) (v1 : Int32) (v2 : Int32) (M : Mm) (hv0 : K v0 = 9) (ov0 : O v0 = i) (hI : ZI K G O L M) (h : f_MO_put G v0 v1 v2 M = some out) : Zo K G O L i M out.2 := by
  unfold f_MO_put at h
  have hZ := Zo.rf (i := i) hI
  rcases ifC h with ⟨_, h⟩ | ⟨_, h⟩
  · obtain ⟨q1, hq1, h⟩ := ob h
    rcases ifC h with ⟨_, h⟩ | ⟨_, h⟩
    · have q2 := (u_MO_values hZ.2.1 hv0)
      have oq2 := (o_MO_values hZ.2.2 hv0 ov0)
      obtain ⟨j3, hj3, h⟩ := ob h
      obtain ⟨x4, ex4, h⟩ := stE h
      rcases ifC h with ⟨_, h⟩ | ⟨_, h⟩
      · rcases ifC h with ⟨_, h⟩ | ⟨_, h⟩
        · rcases ifC h with ⟨_, h⟩ | ⟨_, h⟩
          · obtain rfl := Option.some.inj h
            exact hZ
          · have q5 := (u_MO_sizes hZ.2.1 hv0)
            have oq5 := (o_MO_sizes hZ.2.2 hv0 ov0)
            obtain ⟨j6, hj6, h⟩ := ob h
            rcases ifC h with ⟨_, h⟩ | ⟨_, h⟩
            · obtain rfl := Option.some.inj h
              exact hZ
            · have q7 := (u_MO_keys hZ.2.1 hv0)
              have oq7 := (o_MO_keys hZ.2.2 hv0 ov0)
              have q8 := (u_MO_sizes hZ.2.1 hv0)
              have oq8 := (o_MO_sizes hZ.2.2 hv0 ov0)
              obtain ⟨j9, hj9, h⟩ := ob h
              obtain ⟨j10, hj10, h⟩ := ob h
              obtain ⟨M11, eM11, h⟩ := stE h
              have hZ := z_si hZ eM11 oq7
              have q12 := (u_MO_values hZ.2.1 hv0)
              have oq12 := (o_MO_values hZ.2.2 hv0 ov0)
              have q13 := (u_MO_sizes hZ.2.1 hv0)
              have oq13 := (o_MO_sizes hZ.2.2 hv0 ov0)
              obtain ⟨j14, hj14, h⟩ := ob h
              obtain ⟨j15, hj15, h⟩ := ob h
              obtain ⟨M16, eM16, h⟩ := stE h
              have hZ := z_si hZ eM16 oq12
              have q17 := (u_MO_sizes hZ.2.1 hv0)
              have oq17 := (o_MO_sizes hZ.2.2 hv0 ov0)
              obtain ⟨j18, hj18, h⟩ := ob h
              obtain ⟨j19, hj19, h⟩ := ob h
              obtain ⟨M20, eM20, h⟩ := stE h
              have hZ := z_si hZ eM20 oq17
              obtain rfl := Option.some.inj h
              exact hZ
        · have q21 := (u_MO_values hZ.2.1 hv0)
          have oq21 := (o_MO_values hZ.2.2 hv0 ov0)
          obtain ⟨j22, hj22, h⟩ := ob h
          obtain ⟨M23, eM23, h⟩ := stE h
          have hZ := z_si hZ eM23 oq21
          obtain rfl := Option.some.inj h
          exact hZ
      · rcases ifC h with ⟨_, h⟩ | ⟨_, h⟩
        · have q43 := (u_MO_sizes hZ.2.1 hv0)
          have oq43 := (o_MO_sizes hZ.2.2 hv0 ov0)
          obtain ⟨j44, hj44, h⟩ := ob h
          obtain ⟨j45, hj45, h⟩ := ob h
          obtain ⟨M46, eM46, h⟩ := stE h
          have hZ := z_si hZ eM46 oq43
          have q47 := (u_MO_keys hZ.2.1 hv0)
          have oq47 := (o_MO_keys hZ.2.2 hv0 ov0)
          have q48 := (u_MO_keys hZ.2.1 hv0)
          have oq48 := (o_MO_keys hZ.2.2 hv0 ov0)
          have q49 := (u_MO_sizes hZ.2.1 hv0)
          have oq49 := (o_MO_sizes hZ.2.2 hv0 ov0)
          obtain ⟨j50, hj50, h⟩ := ob h
          obtain ⟨j51, hj51, h⟩ := ob h
          obtain ⟨j52, hj52, h⟩ := ob h
          obtain ⟨M53, eM53, h⟩ := stE h
          have hZ := z_si hZ eM53 oq47
          have q54 := (u_MO_values hZ.2.1 hv0)
          have oq54 := (o_MO_values hZ.2.2 hv0 ov0)
          have q55 := (u_MO_values hZ.2.1 hv0)
          have oq55 := (o_MO_values hZ.2.2 hv0 ov0)
          have q56 := (u_MO_sizes hZ.2.1 hv0)
          have oq56 := (o_MO_sizes hZ.2.2 hv0 ov0)
          obtain ⟨j57, hj57, h⟩ := ob h
          obtain ⟨j58, hj58, h⟩ := ob h
          obtain ⟨j59, hj59, h⟩ := ob h
          obtain ⟨M60, eM60, h⟩ := stE h
          have hZ := z_si hZ eM60 oq54
          obtain rfl := Option.some.inj h
          exact hZ
        · rcases ifC h with ⟨_, h⟩ | ⟨_, h⟩
          · rcases ifC h with ⟨_, h⟩ | ⟨_, h⟩
            · obtain rfl := Option.some.inj h
              exact hZ
            · have q24 := (u_MO_sizes hZ.2.1 hv0)
              have oq24 := (o_MO_sizes hZ.2.2 hv0 ov0)
              obtain ⟨j25, hj25, h⟩ := ob h
              rcases ifC h with ⟨_, h⟩ | ⟨_, h⟩
              · obtain rfl := Option.some.inj h
                exact hZ
              · have q26 := (u_MO_keys hZ.2.1 hv0)
                have oq26 := (o_MO_keys hZ.2.2 hv0 ov0)
                have q27 := (u_MO_sizes hZ.2.1 hv0)
                have oq27 := (o_MO_sizes hZ.2.2 hv0 ov0)
                obtain ⟨j28, hj28, h⟩ := ob h
                obtain ⟨j29, hj29, h⟩ := ob h
                obtain ⟨M30, eM30, h⟩ := stE h
                have hZ := z_si hZ eM30 oq26
                have q31 := (u_MO_values hZ.2.1 hv0)
                have oq31 := (o_MO_values hZ.2.2 hv0 ov0)
                have q32 := (u_MO_sizes hZ.2.1 hv0)
                have oq32 := (o_MO_sizes hZ.2.2 hv0 ov0)
                obtain ⟨j33, hj33, h⟩ := ob h
                obtain ⟨j34, hj34, h⟩ := ob h
                obtain ⟨M35, eM35, h⟩ := stE h
                have hZ := z_si hZ eM35 oq31
                have q36 := (u_MO_sizes hZ.2.1 hv0)
                have oq36 := (o_MO_sizes hZ.2.2 hv0 ov0)
                obtain ⟨j37, hj37, h⟩ := ob h
                obtain ⟨j38, hj38, h⟩ := ob h
                obtain ⟨M39, eM39, h⟩ := stE h
                have hZ := z_si hZ eM39 oq36
                obtain rfl := Option.some.inj h
                exact hZ
          · have q40 := (u_MO_values hZ.2.1 hv0)
            have oq40 := (o_MO_values hZ.2.2 hv0 ov0)
            obtain ⟨j41, hj41, h⟩ := ob h
            obtain ⟨M42, eM42, h⟩ := stE h
            have hZ := z_si hZ eM42 oq40
            obtain rfl := Option.some.inj h
            exact hZ
    · rcases ifC h with ⟨_, h⟩ | ⟨_, h⟩
      · rcases ifC h with ⟨_, h⟩ | ⟨_, h⟩
        · rcases ifC h with ⟨_, h⟩ | ⟨_, h⟩
          · obtain rfl := Option.some.inj h
            exact hZ
          · have q61 := (u_MO_sizes hZ.2.1 hv0)
            have oq61 := (o_MO_sizes hZ.2.2 hv0 ov0)
            obtain ⟨j62, hj62, h⟩ := ob h
            rcases ifC h with ⟨_, h⟩ | ⟨_, h⟩
            · obtain rfl := Option.some.inj h
              exact hZ
            · have q63 := (u_MO_keys hZ.2.1 hv0)
              have oq63 := (o_MO_keys hZ.2.2 hv0 ov0)
              have q64 := (u_MO_sizes hZ.2.1 hv0)
              have oq64 := (o_MO_sizes hZ.2.2 hv0 ov0)
              obtain ⟨j65, hj65, h⟩ := ob h
              obtain ⟨j66, hj66, h⟩ := ob h
              obtain ⟨M67, eM67, h⟩ := stE h
              have hZ := z_si hZ eM67 oq63
              have q68 := (u_MO_values hZ.2.1 hv0)
              have oq68 := (o_MO_values hZ.2.2 hv0 ov0)
              have q69 := (u_MO_sizes hZ.2.1 hv0)
              have oq69 := (o_MO_sizes hZ.2.2 hv0 ov0)
              obtain ⟨j70, hj70, h⟩ := ob h
              obtain ⟨j71, hj71, h⟩ := ob h
              obtain ⟨M72, eM72, h⟩ := stE h
              have hZ := z_si hZ eM72 oq68
              have q73 := (u_MO_sizes hZ.2.1 hv0)
              have oq73 := (o_MO_sizes hZ.2.2 hv0 ov0)
              obtain ⟨j74, hj74, h⟩ := ob h
              obtain ⟨j75, hj75, h⟩ := ob h
              obtain ⟨M76, eM76, h⟩ := stE h
              have hZ := z_si hZ eM76 oq73
              obtain rfl := Option.some.inj h
              exact hZ
        · have q77 := (u_MO_values hZ.2.1 hv0)
          have oq77 := (o_MO_values hZ.2.2 hv0 ov0)
          obtain ⟨j78, hj78, h⟩ := ob h
          obtain ⟨M79, eM79, h⟩ := stE h
          have hZ := z_si hZ eM79 oq77
          obtain rfl := Option.some.inj h
          exact hZ
      · rcases ifC h with ⟨_, h⟩ | ⟨_, h⟩
        · have q99 := (u_MO_sizes hZ.2.1 hv0)
          have oq99 := (o_MO_sizes hZ.2.2 hv0 ov0)
          obtain ⟨j100, hj100, h⟩ := ob h
          obtain ⟨j101, hj101, h⟩ := ob h
          obtain ⟨M102, eM102, h⟩ := stE h
          have hZ := z_si hZ eM102 oq99
          have q103 := (u_MO_keys hZ.2.1 hv0)
          have oq103 := (o_MO_keys hZ.2.2 hv0 ov0)
          have q104 := (u_MO_keys hZ.2.1 hv0)
          have oq104 := (o_MO_keys hZ.2.2 hv0 ov0)
          have q105 := (u_MO_sizes hZ.2.1 hv0)
          have oq105 := (o_MO_sizes hZ.2.2 hv0 ov0)
          obtain ⟨j106, hj106, h⟩ := ob h
          obtain ⟨j107, hj107, h⟩ := ob h
          obtain ⟨j108, hj108, h⟩ := ob h
          obtain ⟨M109, eM109, h⟩ := stE h
          have hZ := z_si hZ eM109 oq103
          have q110 := (u_MO_values hZ.2.1 hv0)
          have oq110 := (o_MO_values hZ.2.2 hv0 ov0)
          have q111 := (u_MO_values hZ.2.1 hv0)
          have oq111 := (o_MO_values hZ.2.2 hv0 ov0)
          have q112 := (u_MO_sizes hZ.2.1 hv0)
          have oq112 := (o_MO_sizes hZ.2.2 hv0 ov0)
          obtain ⟨j113, hj113, h⟩ := ob h
          obtain ⟨j114, hj114, h⟩ := ob h
          obtain ⟨j115, hj115, h⟩ := ob h
          obtain ⟨M116, eM116, h⟩ := stE h
          have hZ := z_si hZ eM116 oq110
          obtain rfl := Option.some.inj h
          exact hZ
        · rcases ifC h with ⟨_, h⟩ | ⟨_, h⟩
          · rcases ifC h with ⟨_, h⟩ | ⟨_, h⟩
            · obtain rfl := Option.some.inj h
              exact hZ
            · have q80 := (u_MO_sizes hZ.2.1 hv0)
              have oq80 := (o_MO_sizes hZ.2.2 hv0 ov0)
              obtain ⟨j81, hj81, h⟩ := ob h
              rcases ifC h with ⟨_, h⟩ | ⟨_, h⟩
              · obtain rfl := Option.some.inj h
                exact hZ
              · have q82 := (u_MO_keys hZ.2.1 hv0)
                have oq82 := (o_MO_keys hZ.2.2 hv0 ov0)
                have q83 := (u_MO_sizes hZ.2.1 hv0)
                have oq83 := (o_MO_sizes hZ.2.2 hv0 ov0)
                obtain ⟨j84, hj84, h⟩ := ob h
                obtain ⟨j85, hj85, h⟩ := ob h
                obtain ⟨M86, eM86, h⟩ := stE h
                have hZ := z_si hZ eM86 oq82
                have q87 := (u_MO_values hZ.2.1 hv0)
                have oq87 := (o_MO_values hZ.2.2 hv0 ov0)
                have q88 := (u_MO_sizes hZ.2.1 hv0)
                have oq88 := (o_MO_sizes hZ.2.2 hv0 ov0)
                obtain ⟨j89, hj89, h⟩ := ob h
                obtain ⟨j90, hj90, h⟩ := ob h
                obtain ⟨M91, eM91, h⟩ := stE h
                have hZ := z_si hZ eM91 oq87
                have q92 := (u_MO_sizes hZ.2.1 hv0)
                have oq92 := (o_MO_sizes hZ.2.2 hv0 ov0)
                obtain ⟨j93, hj93, h⟩ := ob h
                obtain ⟨j94, hj94, h⟩ := ob h
                obtain ⟨M95, eM95, h⟩ := stE h
                have hZ := z_si hZ eM95 oq92
                obtain rfl := Option.some.inj h
                exact hZ
          · have q96 := (u_MO_values hZ.2.1 hv0)
            have oq96 := (o_MO_values hZ.2.2 hv0 ov0)
            obtain ⟨j97, hj97, h⟩ := ob h
            obtain ⟨M98, eM98, h⟩ := stE h
            have hZ := z_si hZ eM98 oq96
            obtain rfl := Option.some.inj h
            exact hZ
  · obtain rfl := Option.some.inj h
    exact hZ
set_option maxHeartbeats 4000000 in
set_option maxRecDepth 100000 in
theorem fo_MO_say {K G O : Nat → Nat} {L : List Nat} {i : Nat} {out : Mm} (v0 : Nat) (v1 : Int64) (M : Mm) (hv0 : K v0 = 9) (ov0 : O v0 = i) (hI : ZI K G O L M) (h : f_MO_say G v0 v1 M = some out) : Zo K G O L i M out := by
  unfold f_MO_say at h
  have hZ := Zo.rf (i := i) hI
  have q1 := (u_MO_words hZ.2.1 hv0)
  have oq1 := (o_MO_words hZ.2.2 hv0 ov0)
  obtain ⟨j2, hj2, h⟩ := ob h
  obtain ⟨M3, eM3, h⟩ := stE h
  have hZ := z_sl hZ eM3 oq1
  obtain ⟨M4, eM4, h⟩ := stE h
  have hZ := z_si hZ eM4 ov0
  obtain rfl := Option.some.inj h
  exact hZ
set_option maxHeartbeats 4000000 in
set_option maxRecDepth 100000 in
theorem fo_MO_reference {K G O : Nat → Nat} {L : List Nat} {i : Nat} {out : Mm} (v0 : Nat) (v1 : Int32) (v2 : Int32) (v3 : Int32) (M : Mm) (hv0 : K v0 = 9) (ov0 : O v0 = i) (hI : ZI K G O L M) (h : f_MO_reference G v0 v1 v2 v3 M = some out) : Zo K G O L i M out := by
  unfold f_MO_reference at h
  have hZ := Zo.rf (i := i) hI
  obtain ⟨q1, hq1, h⟩ := ob h
  rcases ifC h with ⟨_, h⟩ | ⟨_, h⟩
  · rcases ifC h with ⟨_, h⟩ | ⟨_, h⟩
    · obtain rfl := Option.some.inj h
      exact hZ
    · obtain ⟨q46, hq46, h⟩ := ob h
      have hZ := hZ.step (fo_MO_say v0 0 M hv0 ov0 hZ.2 hq46)
      obtain rfl := Option.some.inj h
      exact hZ
  · rcases ifC h with ⟨_, h⟩ | ⟨_, h⟩
    · obtain ⟨q32, hq32, h⟩ := ob h
      rcases ifC h with ⟨_, h⟩ | ⟨_, h⟩
      · have q33 := (u_MO_keys hZ.2.1 hv0)
        have oq33 := (o_MO_keys hZ.2.2 hv0 ov0)
        obtain ⟨j34, hj34, h⟩ := ob h
        obtain ⟨q35, hq35, h⟩ := ob h
        have hZ := hZ.step (fo_MO_say v0 ((2 * ((f_MO_behind (gi M (gr M v0 0) j34) v2).toInt64)) + 1) M hv0 ov0 hZ.2 hq35)
        have q36 := (u_MO_values hZ.2.1 hv0)
        have oq36 := (o_MO_values hZ.2.2 hv0 ov0)
        obtain ⟨j37, hj37, h⟩ := ob h
        obtain ⟨q38, hq38, h⟩ := ob h
        have hZ := hZ.step (fo_MO_say v0 ((gi q35 (gr q35 v0 1) j37).toInt64) q35 hv0 ov0 hZ.2 hq38)
        obtain rfl := Option.some.inj h
        exact hZ
      · obtain ⟨q39, hq39, h⟩ := ob h
        have hZ := hZ.step (fo_MO_say v0 2 M hv0 ov0 hZ.2 hq39)
        have q40 := (u_MO_keys hZ.2.1 hv0)
        have oq40 := (o_MO_keys hZ.2.2 hv0 ov0)
        obtain ⟨j41, hj41, h⟩ := ob h
        obtain ⟨q42, hq42, h⟩ := ob h
        have hZ := hZ.step (fo_MO_say v0 ((2 * ((f_MO_behind (gi q39 (gr q39 v0 0) j41) v2).toInt64)) + 1) q39 hv0 ov0 hZ.2 hq42)
        have q43 := (u_MO_values hZ.2.1 hv0)
        have oq43 := (o_MO_values hZ.2.2 hv0 ov0)
        obtain ⟨j44, hj44, h⟩ := ob h
        obtain ⟨q45, hq45, h⟩ := ob h
        have hZ := hZ.step (fo_MO_say v0 ((gi q42 (gr q42 v0 1) j44).toInt64) q42 hv0 ov0 hZ.2 hq45)
        obtain rfl := Option.some.inj h
        exact hZ
    · obtain ⟨q2, hq2, h⟩ := ob h
      rcases ifC h with ⟨_, h⟩ | ⟨_, h⟩
      · rcases ifC h with ⟨_, h⟩ | ⟨_, h⟩
        · have q3 := (u_MO_digest hZ.2.1 hv0)
          have oq3 := (o_MO_digest hZ.2.2 hv0 ov0)
          obtain ⟨q4, hq4, h⟩ := ob h
          obtain ⟨j5, hj5, h⟩ := ob h
          obtain ⟨q6, hq6, h⟩ := ob h
          have hZ := hZ.step (fo_MO_say v0 (gl M (gr M v0 6) j5) M hv0 ov0 hZ.2 hq6)
          obtain rfl := Option.some.inj h
          exact hZ
        · obtain ⟨q7, hq7, h⟩ := ob h
          have hZ := hZ.step (fo_MO_say v0 (2 * ((f_MO_behind q2 v2).toInt64)) M hv0 ov0 hZ.2 hq7)
          have q8 := (u_MO_digest hZ.2.1 hv0)
          have oq8 := (o_MO_digest hZ.2.2 hv0 ov0)
          obtain ⟨q9, hq9, h⟩ := ob h
          obtain ⟨j10, hj10, h⟩ := ob h
          obtain ⟨q11, hq11, h⟩ := ob h
          have hZ := hZ.step (fo_MO_say v0 (gl q7 (gr q7 v0 6) j10) q7 hv0 ov0 hZ.2 hq11)
          obtain rfl := Option.some.inj h
          exact hZ
      · rcases ifC h with ⟨_, h⟩ | ⟨_, h⟩
        · obtain ⟨q22, hq22, h⟩ := ob h
          have hZ := hZ.step (fo_MO_say v0 1 M hv0 ov0 hZ.2 hq22)
          rcases ifC h with ⟨_, h⟩ | ⟨_, h⟩
          · have q23 := (u_MO_digest hZ.2.1 hv0)
            have oq23 := (o_MO_digest hZ.2.2 hv0 ov0)
            obtain ⟨q24, hq24, h⟩ := ob h
            obtain ⟨j25, hj25, h⟩ := ob h
            obtain ⟨q26, hq26, h⟩ := ob h
            have hZ := hZ.step (fo_MO_say v0 (gl q22 (gr q22 v0 6) j25) q22 hv0 ov0 hZ.2 hq26)
            obtain rfl := Option.some.inj h
            exact hZ
          · obtain ⟨q27, hq27, h⟩ := ob h
            have hZ := hZ.step (fo_MO_say v0 (2 * ((f_MO_behind q2 v2).toInt64)) q22 hv0 ov0 hZ.2 hq27)
            have q28 := (u_MO_digest hZ.2.1 hv0)
            have oq28 := (o_MO_digest hZ.2.2 hv0 ov0)
            obtain ⟨q29, hq29, h⟩ := ob h
            obtain ⟨j30, hj30, h⟩ := ob h
            obtain ⟨q31, hq31, h⟩ := ob h
            have hZ := hZ.step (fo_MO_say v0 (gl q27 (gr q27 v0 6) j30) q27 hv0 ov0 hZ.2 hq31)
            obtain rfl := Option.some.inj h
            exact hZ
        · obtain ⟨q12, hq12, h⟩ := ob h
          have hZ := hZ.step (fo_MO_say v0 2 M hv0 ov0 hZ.2 hq12)
          rcases ifC h with ⟨_, h⟩ | ⟨_, h⟩
          · have q13 := (u_MO_digest hZ.2.1 hv0)
            have oq13 := (o_MO_digest hZ.2.2 hv0 ov0)
            obtain ⟨q14, hq14, h⟩ := ob h
            obtain ⟨j15, hj15, h⟩ := ob h
            obtain ⟨q16, hq16, h⟩ := ob h
            have hZ := hZ.step (fo_MO_say v0 (gl q12 (gr q12 v0 6) j15) q12 hv0 ov0 hZ.2 hq16)
            obtain rfl := Option.some.inj h
            exact hZ
          · obtain ⟨q17, hq17, h⟩ := ob h
            have hZ := hZ.step (fo_MO_say v0 (2 * ((f_MO_behind q2 v2).toInt64)) q12 hv0 ov0 hZ.2 hq17)
            have q18 := (u_MO_digest hZ.2.1 hv0)
            have oq18 := (o_MO_digest hZ.2.2 hv0 ov0)
            obtain ⟨q19, hq19, h⟩ := ob h
            obtain ⟨j20, hj20, h⟩ := ob h
            obtain ⟨q21, hq21, h⟩ := ob h
            have hZ := hZ.step (fo_MO_say v0 (gl q17 (gr q17 v0 6) j20) q17 hv0 ov0 hZ.2 hq21)
            obtain rfl := Option.some.inj h
            exact hZ
set_option maxHeartbeats 4000000 in
set_option maxRecDepth 100000 in
theorem fo_MO_encode_2 {K G O : Nat → Nat} {L : List Nat} {i : Nat} {out : Mm} : ∀ (n : Nat) (v0 : Nat) (v1 : Int32) (v2 : Int32) (v3 : Int32) (M : Mm), K v0 = 9 → O v0 = i → ZI K G O L M → f_MO_encode_2 G n v0 v1 v2 v3 M = some out → Zo K G O L i M out := by
  intro n
  induction n with
  | zero => intro _ _ _ _ _ _ _ _ h; rw [f_MO_encode_2] at h; cases h
  | succ n ih =>
    intro v0 v1 v2 v3 M hv0 ov0 hI h
    rw [f_MO_encode_2] at h
    have hZ := Zo.rf (i := i) hI
    rcases ifC h with ⟨_, h⟩ | ⟨_, h⟩
    · obtain ⟨q1, hq1, h⟩ := ob h
      obtain ⟨q2, hq2, h⟩ := ob h
      have hZ := hZ.step (fo_MO_say v0 (q1.toInt64) M hv0 ov0 hZ.2 hq2)
      obtain rfl := Option.some.inj h
      exact hZ
    · obtain ⟨q3, hq3, h⟩ := ob h
      have hZ := hZ.step (fo_MO_reference v0 v1 ((16 * v2) + v3) 1 M hv0 ov0 hZ.2 hq3)
      exact hZ.step (ih v0 v1 v2 (v3 + 1) q3 hv0 ov0 hZ.2 h)
set_option maxHeartbeats 4000000 in
set_option maxRecDepth 100000 in
theorem fo_MO_encode {K G O : Nat → Nat} {L : List Nat} {i : Nat} {out : Mm} (v0 : Nat) (v1 : Int32) (v2 : Int32) (M : Mm) (hv0 : K v0 = 9) (ov0 : O v0 = i) (hI : ZI K G O L M) (h : f_MO_encode G v0 v1 v2 M = some out) : Zo K G O L i M out := by
  unfold f_MO_encode at h
  have hZ := Zo.rf (i := i) hI
  exact hZ.step (fo_MO_encode_2 FU v0 v1 v2 0 M hv0 ov0 hZ.2 h)
set_option maxHeartbeats 4000000 in
set_option maxRecDepth 100000 in
theorem fo_MO_build_18 {K G O : Nat → Nat} {L : List Nat} {i : Nat} {out : Mm} (k9 : Nat → Int32 → Int32 → Mm → Option (Mm)) (hk9 : ∀ (v0 : Nat) (v1 : Int32) (v2 : Int32) (M : Mm), K v0 = 9 → O v0 = i → ZI K G O L M → k9 v0 v1 v2 M = some out → Zo K G O L i M out) : ∀ (n : Nat) (v0 : Nat) (v1 : Int32) (v2 : Int32) (v3 : Int32) (M : Mm), K v0 = 9 → O v0 = i → ZI K G O L M → f_MO_build_18 G k9 n v0 v1 v2 v3 M = some out → Zo K G O L i M out := by
  intro n
  induction n with
  | zero => intro _ _ _ _ _ _ _ _ h; rw [f_MO_build_18] at h; cases h
  | succ n ih =>
    intro v0 v1 v2 v3 M hv0 ov0 hI h
    rw [f_MO_build_18] at h
    have hZ := Zo.rf (i := i) hI
    have q1 := (u_MO_sizes hZ.2.1 hv0)
    have oq1 := (o_MO_sizes hZ.2.2 hv0 ov0)
    obtain ⟨j2, hj2, h⟩ := ob h
    rcases ifC h with ⟨_, h⟩ | ⟨_, h⟩
    · exact hZ.step (hk9 v0 v1 (v2 + (-1)) M hv0 ov0 hZ.2 h)
    · have q3 := (u_MO_keys hZ.2.1 hv0)
      have oq3 := (o_MO_keys hZ.2.2 hv0 ov0)
      obtain ⟨j4, hj4, h⟩ := ob h
      obtain ⟨x5, ex5, h⟩ := stE h
      rcases ifC h with ⟨_, h⟩ | ⟨_, h⟩
      · rcases ifC h with ⟨_, h⟩ | ⟨_, h⟩
        · exact hZ.step (ih v0 v1 v2 (v3 + 1) M hv0 ov0 hZ.2 h)
        · obtain ⟨q6, hq6, h⟩ := ob h
          rcases ifC h with ⟨_, h⟩ | ⟨_, h⟩
          · exact hZ.step (ih v0 v1 v2 (v3 + 1) M hv0 ov0 hZ.2 h)
          · obtain ⟨q7, hq7, h⟩ := ob h
            rcases ifC h with ⟨_, h⟩ | ⟨_, h⟩
            · exact hZ.step (ih v0 v1 v2 (v3 + 1) M hv0 ov0 hZ.2 h)
            · obtain ⟨M8, eM8, h⟩ := stE h
              have hZ := z_si hZ eM8 ov0
              obtain ⟨q9, hq9, h⟩ := ob h
              have hZ := hZ.step (fo_MO_encode v0 v1 (-1) M8 hv0 ov0 hZ.2 hq9)
              have q10 := (u_MO_branch hZ.2.1 hv0)
              have oq10 := (o_MO_branch hZ.2.2 hv0 ov0)
              have q11 := (u_MO_branches hZ.2.1 hv0)
              have oq11 := (o_MO_branches hZ.2.2 hv0 ov0)
              obtain ⟨j12, hj12, h⟩ := ob h
              obtain ⟨j13, hj13, h⟩ := ob h
              obtain ⟨M14, eM14, h⟩ := stE h
              have hZ := z_si hZ eM14 oq10
              have q15 := (u_MO_digest hZ.2.1 hv0)
              have oq15 := (o_MO_digest hZ.2.2 hv0 ov0)
              have q16 := (u_MO_branches hZ.2.1 hv0)
              have oq16 := (o_MO_branches hZ.2.2 hv0 ov0)
              obtain ⟨j17, hj17, h⟩ := ob h
              obtain ⟨q18, hq18, h⟩ := ob h
              obtain ⟨j19, hj19, h⟩ := ob h
              obtain ⟨M20, eM20, h⟩ := stE h
              have hZ := z_sl hZ eM20 oq15
              have q21 := (u_MO_branches hZ.2.1 hv0)
              have oq21 := (o_MO_branches hZ.2.2 hv0 ov0)
              obtain ⟨j22, hj22, h⟩ := ob h
              obtain ⟨j23, hj23, h⟩ := ob h
              obtain ⟨M24, eM24, h⟩ := stE h
              have hZ := z_si hZ eM24 oq21
              exact hZ.step (ih v0 v1 v2 (v3 + 1) M24 hv0 ov0 hZ.2 h)
      · have q25 := (u_MO_keys hZ.2.1 hv0)
        have oq25 := (o_MO_keys hZ.2.2 hv0 ov0)
        obtain ⟨j26, hj26, h⟩ := ob h
        obtain ⟨x27, ex27, h⟩ := stE h
        rcases ifC h with ⟨_, h⟩ | ⟨_, h⟩
        · exact hZ.step (ih v0 v1 v2 (v3 + 1) M hv0 ov0 hZ.2 h)
        · obtain ⟨q28, hq28, h⟩ := ob h
          rcases ifC h with ⟨_, h⟩ | ⟨_, h⟩
          · exact hZ.step (ih v0 v1 v2 (v3 + 1) M hv0 ov0 hZ.2 h)
          · obtain ⟨q29, hq29, h⟩ := ob h
            rcases ifC h with ⟨_, h⟩ | ⟨_, h⟩
            · exact hZ.step (ih v0 v1 v2 (v3 + 1) M hv0 ov0 hZ.2 h)
            · obtain ⟨M30, eM30, h⟩ := stE h
              have hZ := z_si hZ eM30 ov0
              obtain ⟨q31, hq31, h⟩ := ob h
              have hZ := hZ.step (fo_MO_encode v0 v1 x27 M30 hv0 ov0 hZ.2 hq31)
              have q32 := (u_MO_branch hZ.2.1 hv0)
              have oq32 := (o_MO_branch hZ.2.2 hv0 ov0)
              have q33 := (u_MO_branches hZ.2.1 hv0)
              have oq33 := (o_MO_branches hZ.2.2 hv0 ov0)
              obtain ⟨j34, hj34, h⟩ := ob h
              obtain ⟨j35, hj35, h⟩ := ob h
              obtain ⟨M36, eM36, h⟩ := stE h
              have hZ := z_si hZ eM36 oq32
              have q37 := (u_MO_digest hZ.2.1 hv0)
              have oq37 := (o_MO_digest hZ.2.2 hv0 ov0)
              have q38 := (u_MO_branches hZ.2.1 hv0)
              have oq38 := (o_MO_branches hZ.2.2 hv0 ov0)
              obtain ⟨j39, hj39, h⟩ := ob h
              obtain ⟨q40, hq40, h⟩ := ob h
              obtain ⟨j41, hj41, h⟩ := ob h
              obtain ⟨M42, eM42, h⟩ := stE h
              have hZ := z_sl hZ eM42 oq37
              have q43 := (u_MO_branches hZ.2.1 hv0)
              have oq43 := (o_MO_branches hZ.2.2 hv0 ov0)
              obtain ⟨j44, hj44, h⟩ := ob h
              obtain ⟨j45, hj45, h⟩ := ob h
              obtain ⟨M46, eM46, h⟩ := stE h
              have hZ := z_si hZ eM46 oq43
              exact hZ.step (ih v0 v1 v2 (v3 + 1) M46 hv0 ov0 hZ.2 h)
set_option maxHeartbeats 4000000 in
set_option maxRecDepth 100000 in
theorem fo_MO_build_9 {K G O : Nat → Nat} {L : List Nat} {i : Nat} {out : Mm} : ∀ (n : Nat) (v0 : Nat) (v1 : Int32) (v2 : Int32) (M : Mm), K v0 = 9 → O v0 = i → ZI K G O L M → f_MO_build_9 G n v0 v1 v2 M = some out → Zo K G O L i M out := by
  intro n
  induction n with
  | zero => intro _ _ _ _ _ _ _ h; rw [f_MO_build_9] at h; cases h
  | succ n ih =>
    intro v0 v1 v2 M hv0 ov0 hI h
    rw [f_MO_build_9] at h
    have hZ := Zo.rf (i := i) hI
    rcases ifC h with ⟨_, h⟩ | ⟨_, h⟩
    · obtain rfl := Option.some.inj h
      exact hZ
    · exact hZ.step (fo_MO_build_18 _ ih FU v0 v1 v2 (16 * v1) M hv0 ov0 hZ.2 h)
set_option maxHeartbeats 4000000 in
set_option maxRecDepth 100000 in
theorem fo_MO_build {K G O : Nat → Nat} {L : List Nat} {i : Nat} {out : Mm} (v0 : Nat) (v1 : Int32) (M : Mm) (hv0 : K v0 = 9) (ov0 : O v0 = i) (hI : ZI K G O L M) (h : f_MO_build G v0 v1 M = some out) : Zo K G O L i M out := by
  unfold f_MO_build at h
  have hZ := Zo.rf (i := i) hI
  have q1 := (u_MO_branches hZ.2.1 hv0)
  have oq1 := (o_MO_branches hZ.2.2 hv0 ov0)
  obtain ⟨j2, hj2, h⟩ := ob h
  obtain ⟨M3, eM3, h⟩ := stE h
  have hZ := z_si hZ eM3 oq1
  exact hZ.step (fo_MO_build_9 FU v0 v1 3 M3 hv0 ov0 hZ.2 h)
set_option maxHeartbeats 4000000 in
set_option maxRecDepth 100000 in
theorem fo_MO_rootOf {K G O : Nat → Nat} {L : List Nat} {i : Nat} {out : Int64 × Mm} (v0 : Nat) (v1 : Int32) (M : Mm) (hv0 : K v0 = 9) (ov0 : O v0 = i) (hI : ZI K G O L M) (h : f_MO_rootOf G v0 v1 M = some out) : Zo K G O L i M out.2 := by
  unfold f_MO_rootOf at h
  have hZ := Zo.rf (i := i) hI
  obtain ⟨M1, eM1, h⟩ := stE h
  have hZ := z_si hZ eM1 ov0
  obtain ⟨q2, hq2, h⟩ := ob h
  have hZ := hZ.step (fo_MO_reference v0 v1 1 0 M1 hv0 ov0 hZ.2 hq2)
  obtain ⟨q3, hq3, h⟩ := ob h
  obtain rfl := Option.some.inj h
  exact hZ
set_option maxHeartbeats 4000000 in
set_option maxRecDepth 100000 in
theorem fo_MO_root {K G O : Nat → Nat} {L : List Nat} {i : Nat} {out : Int64 × Mm} (v0 : Nat) (M : Mm) (hv0 : K v0 = 9) (ov0 : O v0 = i) (hI : ZI K G O L M) (h : f_MO_root G v0 M = some out) : Zo K G O L i M out.2 := by
  unfold f_MO_root at h
  have hZ := Zo.rf (i := i) hI
  obtain ⟨q1, hq1, h⟩ := ob h
  have hZ := hZ.step (fo_MO_build v0 0 M hv0 ov0 hZ.2 hq1)
  obtain ⟨q2, hq2, h⟩ := ob h
  have hZ := hZ.step (fo_MO_rootOf v0 0 q1 hv0 ov0 hZ.2 hq2)
  obtain rfl := Option.some.inj h
  exact hZ
set_option maxHeartbeats 4000000 in
set_option maxRecDepth 100000 in
theorem fo_MO_count_73 {K G O : Nat → Nat} {L : List Nat} {i : Nat} {out : Int32 × Mm} (k36 : Nat → Int32 → Int32 → Int32 → Int32 → Mm → Option (Int32 × Mm)) (hk36 : ∀ (v0 : Nat) (v1 : Int32) (v2 : Int32) (v3 : Int32) (v4 : Int32) (M : Mm), K v0 = 9 → O v0 = i → ZI K G O L M → k36 v0 v1 v2 v3 v4 M = some out → Zo K G O L i M out.2) : ∀ (n : Nat) (v0 : Nat) (v1 : Int32) (v2 : Int32) (v3 : Int32) (v4 : Int32) (v5 : Int32) (M : Mm), K v0 = 9 → O v0 = i → ZI K G O L M → f_MO_count_73 G k36 n v0 v1 v2 v3 v4 v5 M = some out → Zo K G O L i M out.2 := by
  intro n
  induction n with
  | zero => intro _ _ _ _ _ _ _ _ _ _ h; rw [f_MO_count_73] at h; cases h
  | succ n ih =>
    intro v0 v1 v2 v3 v4 v5 M hv0 ov0 hI h
    rw [f_MO_count_73] at h
    have hZ := Zo.rf (i := i) hI
    rcases ifC h with ⟨_, h⟩ | ⟨_, h⟩
    · exact hZ.step (hk36 v0 v1 v2 v3 (v4 + 1) M hv0 ov0 hZ.2 h)
    · have q1 := (u_MO_branch hZ.2.1 hv0)
      have oq1 := (o_MO_branch hZ.2.2 hv0 ov0)
      obtain ⟨j2, hj2, h⟩ := ob h
      obtain ⟨x3, ex3, h⟩ := stE h
      obtain ⟨q4, hq4, h⟩ := ob h
      rcases ifC h with ⟨_, h⟩ | ⟨_, h⟩
      · exact hZ.step (ih v0 v1 v2 v3 v4 (v5 + 1) M hv0 ov0 hZ.2 h)
      · obtain ⟨q5, hq5, h⟩ := ob h
        rcases ifC h with ⟨_, h⟩ | ⟨_, h⟩
        · exact hZ.step (ih v0 v1 v2 v3 v4 (v5 + 1) M hv0 ov0 hZ.2 h)
        · exact hZ.step (ih v0 v1 v2 (v3 + 1) v4 (v5 + 1) M hv0 ov0 hZ.2 h)
set_option maxHeartbeats 4000000 in
set_option maxRecDepth 100000 in
theorem fo_MO_count_36 {K G O : Nat → Nat} {L : List Nat} {i : Nat} {out : Int32 × Mm} : ∀ (n : Nat) (v0 : Nat) (v1 : Int32) (v2 : Int32) (v3 : Int32) (v4 : Int32) (M : Mm), K v0 = 9 → O v0 = i → ZI K G O L M → f_MO_count_36 G n v0 v1 v2 v3 v4 M = some out → Zo K G O L i M out.2 := by
  intro n
  induction n with
  | zero => intro _ _ _ _ _ _ _ _ _ h; rw [f_MO_count_36] at h; cases h
  | succ n ih =>
    intro v0 v1 v2 v3 v4 M hv0 ov0 hI h
    rw [f_MO_count_36] at h
    have hZ := Zo.rf (i := i) hI
    have q1 := (u_MO_branches hZ.2.1 hv0)
    have oq1 := (o_MO_branches hZ.2.2 hv0 ov0)
    obtain ⟨j2, hj2, h⟩ := ob h
    rcases ifC h with ⟨_, h⟩ | ⟨_, h⟩
    · rcases ifC h with ⟨_, h⟩ | ⟨_, h⟩
      · have q5 := (u_MO_sizes hZ.2.1 hv0)
        have oq5 := (o_MO_sizes hZ.2.2 hv0 ov0)
        obtain ⟨j6, hj6, h⟩ := ob h
        obtain rfl := Option.some.inj h
        exact hZ
      · rcases ifC h with ⟨_, h⟩ | ⟨_, h⟩
        · obtain rfl := Option.some.inj h
          exact hZ
        · rcases ifC h with ⟨_, h⟩ | ⟨_, h⟩
          · have q3 := (u_MO_branches hZ.2.1 hv0)
            have oq3 := (o_MO_branches hZ.2.2 hv0 ov0)
            obtain ⟨j4, hj4, h⟩ := ob h
            obtain rfl := Option.some.inj h
            exact hZ
          · obtain rfl := Option.some.inj h
            exact hZ
    · have q7 := (u_MO_branch hZ.2.1 hv0)
      have oq7 := (o_MO_branch hZ.2.2 hv0 ov0)
      obtain ⟨j8, hj8, h⟩ := ob h
      obtain ⟨q9, hq9, h⟩ := ob h
      rcases ifC h with ⟨_, h⟩ | ⟨_, h⟩
      · exact hZ.step (fo_MO_count_73 _ ih FU v0 v1 v2 v3 v4 0 M hv0 ov0 hZ.2 h)
      · exact hZ.step (fo_MO_count_73 _ ih FU v0 v1 (v2 + 1) v3 v4 0 M hv0 ov0 hZ.2 h)
set_option maxHeartbeats 4000000 in
set_option maxRecDepth 100000 in
theorem fo_MO_count {K G O : Nat → Nat} {L : List Nat} {i : Nat} {out : Int32 × Mm} (v0 : Nat) (v1 : Int32) (M : Mm) (hv0 : K v0 = 9) (ov0 : O v0 = i) (hI : ZI K G O L M) (h : f_MO_count G v0 v1 M = some out) : Zo K G O L i M out.2 := by
  unfold f_MO_count at h
  have hZ := Zo.rf (i := i) hI
  obtain ⟨q1, hq1, h⟩ := ob h
  have hZ := hZ.step (fo_MO_build v0 0 M hv0 ov0 hZ.2 hq1)
  have q2 := (u_MO_sizes hZ.2.1 hv0)
  have oq2 := (o_MO_sizes hZ.2.2 hv0 ov0)
  obtain ⟨j3, hj3, h⟩ := ob h
  rcases ifC h with ⟨_, h⟩ | ⟨_, h⟩
  · exact hZ.step (fo_MO_count_36 FU v0 v1 0 0 0 q1 hv0 ov0 hZ.2 h)
  · obtain ⟨q4, hq4, h⟩ := ob h
    rcases ifC h with ⟨_, h⟩ | ⟨_, h⟩
    · exact hZ.step (fo_MO_count_36 FU v0 v1 0 0 0 q1 hv0 ov0 hZ.2 h)
    · exact hZ.step (fo_MO_count_36 FU v0 v1 0 1 0 q1 hv0 ov0 hZ.2 h)
set_option maxHeartbeats 4000000 in
set_option maxRecDepth 100000 in
theorem fo_MO_back {K G O : Nat → Nat} {L : List Nat} {i : Nat} {out : Mm} (v0 : Nat) (M : Mm) (hv0 : K v0 = 9) (ov0 : O v0 = i) (hI : ZI K G O L M) (h : f_MO_back G v0 M = some out) : Zo K G O L i M out := by
  unfold f_MO_back at h
  have hZ := Zo.rf (i := i) hI
  rcases ifC h with ⟨_, h⟩ | ⟨_, h⟩
  · have q2 := (u_MO_sizes hZ.2.1 hv0)
    have oq2 := (o_MO_sizes hZ.2.2 hv0 ov0)
    obtain ⟨j3, hj3, h⟩ := ob h
    obtain ⟨M4, eM4, h⟩ := stE h
    have hZ := z_si hZ eM4 oq2
    obtain rfl := Option.some.inj h
    exact hZ
  · obtain ⟨q1, hq1, h⟩ := ob h
    have hZ := hZ.step (fo_MO_copy v0 1 0 M hv0 ov0 hZ.2 hq1)
    obtain rfl := Option.some.inj h
    exact hZ
set_option maxHeartbeats 4000000 in
set_option maxRecDepth 100000 in
theorem fo_MO_commit_87 {K G O : Nat → Nat} {L : List Nat} {i : Nat} {out : Int32 × Mm} : ∀ (n : Nat) (v0 : Nat) (v2 : Int32) (v3 : Int32) (M : Mm), K v0 = 9 → O v0 = i → ZI K G O L M → f_MO_commit_87 G n v0 v2 v3 M = some out → Zo K G O L i M out.2 := by
  intro n
  induction n with
  | zero => intro _ _ _ _ _ _ _ h; rw [f_MO_commit_87] at h; cases h
  | succ n ih =>
    intro v0 v2 v3 M hv0 ov0 hI h
    rw [f_MO_commit_87] at h
    have hZ := Zo.rf (i := i) hI
    rcases ifC h with ⟨_, h⟩ | ⟨_, h⟩
    · obtain rfl := Option.some.inj h
      exact hZ
    · obtain ⟨q1, hq1, h⟩ := ob h
      have hZ := hZ.step (fo_MO_copy v0 (v3 - 1) v3 M hv0 ov0 hZ.2 hq1)
      exact hZ.step (ih v0 v2 (v3 + (-1)) q1 hv0 ov0 hZ.2 h)
set_option maxHeartbeats 4000000 in
set_option maxRecDepth 100000 in
theorem fo_MO_commit_9 {K G O : Nat → Nat} {L : List Nat} {i : Nat} {out : Int32 × Mm} : ∀ (n : Nat) (v0 : Nat) (v1 : Int32) (v2 : Int32) (v3 : Int32) (M : Mm), K v0 = 9 → O v0 = i → ZI K G O L M → f_MO_commit_9 G n v0 v1 v2 v3 M = some out → Zo K G O L i M out.2 := by
  intro n
  induction n with
  | zero => intro _ _ _ _ _ _ _ _ h; rw [f_MO_commit_9] at h; cases h
  | succ n ih =>
    intro v0 v1 v2 v3 M hv0 ov0 hI h
    rw [f_MO_commit_9] at h
    have hZ := Zo.rf (i := i) hI
    have q1 := (u_MO_branches hZ.2.1 hv0)
    have oq1 := (o_MO_branches hZ.2.2 hv0 ov0)
    obtain ⟨j2, hj2, h⟩ := ob h
    rcases ifC h with ⟨_, h⟩ | ⟨_, h⟩
    · rcases ifC h with ⟨_, h⟩ | ⟨_, h⟩
      · rcases ifC h with ⟨_, h⟩ | ⟨_, h⟩
        · obtain ⟨M3, eM3, h⟩ := stE h
          have hZ := z_si hZ eM3 ov0
          exact hZ.step (fo_MO_commit_87 FU v0 v2 (gi M3 v0 3) M3 hv0 ov0 hZ.2 h)
        · obtain ⟨M4, eM4, h⟩ := stE h
          have hZ := z_si hZ eM4 ov0
          exact hZ.step (fo_MO_commit_87 FU v0 v2 (gi M4 v0 3) M4 hv0 ov0 hZ.2 h)
      · obtain ⟨q5, hq5, h⟩ := ob h
        have hZ := hZ.step (fo_MO_back v0 M hv0 ov0 hZ.2 hq5)
        obtain rfl := Option.some.inj h
        exact hZ
    · obtain ⟨q6, hq6, h⟩ := ob h
      rcases ifC h with ⟨_, h⟩ | ⟨_, h⟩
      · exact hZ.step (ih v0 v1 (v2 + 1) (v3 + 1) M hv0 ov0 hZ.2 h)
      · exact hZ.step (ih v0 v1 v2 (v3 + 1) M hv0 ov0 hZ.2 h)
set_option maxHeartbeats 4000000 in
set_option maxRecDepth 100000 in
theorem fo_MO_commit {K G O : Nat → Nat} {L : List Nat} {i : Nat} {out : Int32 × Mm} (v0 : Nat) (v1 : Int32) (M : Mm) (hv0 : K v0 = 9) (ov0 : O v0 = i) (hI : ZI K G O L M) (h : f_MO_commit G v0 v1 M = some out) : Zo K G O L i M out.2 := by
  unfold f_MO_commit at h
  have hZ := Zo.rf (i := i) hI
  obtain ⟨q1, hq1, h⟩ := ob h
  have hZ := hZ.step (fo_MO_build v0 0 M hv0 ov0 hZ.2 hq1)
  exact hZ.step (fo_MO_commit_9 FU v0 v1 0 0 q1 hv0 ov0 hZ.2 h)
set_option maxHeartbeats 4000000 in
set_option maxRecDepth 100000 in
theorem fo_MO_crash {K G O : Nat → Nat} {L : List Nat} {i : Nat} {out : Int32 × Mm} (v0 : Nat) (M : Mm) (hv0 : K v0 = 9) (ov0 : O v0 = i) (hI : ZI K G O L M) (h : f_MO_crash G v0 M = some out) : Zo K G O L i M out.2 := by
  unfold f_MO_crash at h
  have hZ := Zo.rf (i := i) hI
  obtain ⟨q1, hq1, h⟩ := ob h
  have hZ := hZ.step (fo_MO_back v0 M hv0 ov0 hZ.2 hq1)
  have q2 := (u_MO_sizes hZ.2.1 hv0)
  have oq2 := (o_MO_sizes hZ.2.2 hv0 ov0)
  obtain ⟨j3, hj3, h⟩ := ob h
  obtain rfl := Option.some.inj h
  exact hZ
set_option maxHeartbeats 4000000 in
set_option maxRecDepth 100000 in
theorem fo_MO_rootAt {K G O : Nat → Nat} {L : List Nat} {i : Nat} {out : Int64 × Mm} (v0 : Nat) (v1 : Int32) (M : Mm) (hv0 : K v0 = 9) (ov0 : O v0 = i) (hI : ZI K G O L M) (h : f_MO_rootAt G v0 v1 M = some out) : Zo K G O L i M out.2 := by
  unfold f_MO_rootAt at h
  have hZ := Zo.rf (i := i) hI
  rcases ifC h with ⟨_, h⟩ | ⟨_, h⟩
  · obtain rfl := Option.some.inj h
    exact hZ
  · obtain ⟨q1, hq1, h⟩ := ob h
    have hZ := hZ.step (fo_MO_rootOf v0 (v1 + 1) M hv0 ov0 hZ.2 hq1)
    obtain rfl := Option.some.inj h
    exact hZ
set_option maxHeartbeats 4000000 in
set_option maxRecDepth 100000 in
theorem fo_MO_append_2 {K G O : Nat → Nat} {L : List Nat} {i : Nat} {out : Mm} : ∀ (n : Nat) (v0 : Nat) (v1 : Int32) (M : Mm), K v0 = 9 → O v0 = i → ZI K G O L M → f_MO_append_2 G n v0 v1 M = some out → Zo K G O L i M out := by
  intro n
  induction n with
  | zero => intro _ _ _ _ _ _ h; rw [f_MO_append_2] at h; cases h
  | succ n ih =>
    intro v0 v1 M hv0 ov0 hI h
    rw [f_MO_append_2] at h
    have hZ := Zo.rf (i := i) hI
    rcases ifC h with ⟨_, h⟩ | ⟨_, h⟩
    · obtain rfl := Option.some.inj h
      exact hZ
    · have q1 := (u_MO_proof hZ.2.1 hv0)
      have oq1 := (o_MO_proof hZ.2.2 hv0 ov0)
      have q2 := (u_MO_words hZ.2.1 hv0)
      have oq2 := (o_MO_words hZ.2.2 hv0 ov0)
      obtain ⟨j3, hj3, h⟩ := ob h
      obtain ⟨j4, hj4, h⟩ := ob h
      obtain ⟨M5, eM5, h⟩ := stE h
      have hZ := z_sl hZ eM5 oq1
      obtain ⟨M6, eM6, h⟩ := stE h
      have hZ := z_si hZ eM6 ov0
      exact hZ.step (ih v0 (v1 + 1) M6 hv0 ov0 hZ.2 h)
set_option maxHeartbeats 4000000 in
set_option maxRecDepth 100000 in
theorem fo_MO_append {K G O : Nat → Nat} {L : List Nat} {i : Nat} {out : Mm} (v0 : Nat) (M : Mm) (hv0 : K v0 = 9) (ov0 : O v0 = i) (hI : ZI K G O L M) (h : f_MO_append G v0 M = some out) : Zo K G O L i M out := by
  unfold f_MO_append at h
  have hZ := Zo.rf (i := i) hI
  exact hZ.step (fo_MO_append_2 FU v0 0 M hv0 ov0 hZ.2 h)
set_option maxHeartbeats 4000000 in
set_option maxRecDepth 100000 in
theorem fo_MO_prove_45 {K G O : Nat → Nat} {L : List Nat} {i : Nat} {out : Int32 × Mm} : ∀ (n : Nat) (v0 : Nat) (v1 : Int32) (v2 : Int32) (v3 : Int32) (v4 : Int32) (M : Mm), K v0 = 9 → O v0 = i → ZI K G O L M → f_MO_prove_45 G n v0 v1 v2 v3 v4 M = some out → Zo K G O L i M out.2 := by
  intro n
  induction n with
  | zero => intro _ _ _ _ _ _ _ _ _ h; rw [f_MO_prove_45] at h; cases h
  | succ n ih =>
    intro v0 v1 v2 v3 v4 M hv0 ov0 hI h
    rw [f_MO_prove_45] at h
    have hZ := Zo.rf (i := i) hI
    rcases ifC h with ⟨_, h⟩ | ⟨_, h⟩
    · obtain rfl := Option.some.inj h
      exact hZ
    · obtain ⟨x1, ex1, h⟩ := stE h
      obtain ⟨q2, hq2, h⟩ := ob h
      rcases ifC h with ⟨_, h⟩ | ⟨_, h⟩
      · exact hZ.step (ih v0 v1 v2 v3 (v4 + 1) M hv0 ov0 hZ.2 h)
      · obtain ⟨M3, eM3, h⟩ := stE h
        have hZ := z_si hZ eM3 ov0
        obtain ⟨q4, hq4, h⟩ := ob h
        have hZ := hZ.step (fo_MO_encode v0 (v1 + 1) x1 M3 hv0 ov0 hZ.2 hq4)
        obtain ⟨q5, hq5, h⟩ := ob h
        have hZ := hZ.step (fo_MO_append v0 q4 hv0 ov0 hZ.2 hq5)
        exact hZ.step (ih v0 v1 v2 v3 (v4 + 1) q5 hv0 ov0 hZ.2 h)
set_option maxHeartbeats 4000000 in
set_option maxRecDepth 100000 in
theorem fo_MO_prove {K G O : Nat → Nat} {L : List Nat} {i : Nat} {out : Int32 × Mm} (v0 : Nat) (v1 : Int32) (v2 : Int32) (M : Mm) (hv0 : K v0 = 9) (ov0 : O v0 = i) (hI : ZI K G O L M) (h : f_MO_prove G v0 v1 v2 M = some out) : Zo K G O L i M out.2 := by
  unfold f_MO_prove at h
  have hZ := Zo.rf (i := i) hI
  rcases ifC h with ⟨_, h⟩ | ⟨_, h⟩
  · obtain rfl := Option.some.inj h
    exact hZ
  · rcases ifC h with ⟨_, h⟩ | ⟨_, h⟩
    · obtain ⟨M1, eM1, h⟩ := stE h
      have hZ := z_si hZ eM1 ov0
      obtain ⟨M2, eM2, h⟩ := stE h
      have hZ := z_si hZ eM2 ov0
      obtain ⟨q3, hq3, h⟩ := ob h
      have hZ := hZ.step (fo_MO_reference v0 (v1 + 1) 1 1 M2 hv0 ov0 hZ.2 hq3)
      obtain ⟨q4, hq4, h⟩ := ob h
      have hZ := hZ.step (fo_MO_append v0 q3 hv0 ov0 hZ.2 hq4)
      exact hZ.step (fo_MO_prove_45 FU v0 v1 v2 (f_MO_nibbles v2) 0 q4 hv0 ov0 hZ.2 h)
    · obtain rfl := Option.some.inj h
      exact hZ
set_option maxHeartbeats 4000000 in
set_option maxRecDepth 100000 in
theorem fo_MO_alter {K G O : Nat → Nat} {L : List Nat} {i : Nat} {out : Int32 × Mm} (v0 : Nat) (v1 : Int32) (v2 : Int64) (M : Mm) (hv0 : K v0 = 9) (ov0 : O v0 = i) (hI : ZI K G O L M) (h : f_MO_alter G v0 v1 v2 M = some out) : Zo K G O L i M out.2 := by
  unfold f_MO_alter at h
  have hZ := Zo.rf (i := i) hI
  rcases ifC h with ⟨_, h⟩ | ⟨_, h⟩
  · obtain rfl := Option.some.inj h
    exact hZ
  · rcases ifC h with ⟨_, h⟩ | ⟨_, h⟩
    · have q1 := (u_MO_proof hZ.2.1 hv0)
      have oq1 := (o_MO_proof hZ.2.2 hv0 ov0)
      obtain ⟨j2, hj2, h⟩ := ob h
      obtain ⟨M3, eM3, h⟩ := stE h
      have hZ := z_sl hZ eM3 oq1
      obtain rfl := Option.some.inj h
      exact hZ
    · obtain rfl := Option.some.inj h
      exact hZ
set_option maxHeartbeats 4000000 in
set_option maxRecDepth 100000 in
theorem fo_MO_cut {K G O : Nat → Nat} {L : List Nat} {i : Nat} {out : Int32 × Mm} (v0 : Nat) (M : Mm) (hv0 : K v0 = 9) (ov0 : O v0 = i) (hI : ZI K G O L M) (h : f_MO_cut G v0 M = out) : Zo K G O L i M out.2 := by
  unfold f_MO_cut at h
  have hZ := Zo.rf (i := i) hI
  rcases ifC h with ⟨_, h⟩ | ⟨_, h⟩
  · obtain ⟨M2, eM2, h⟩ := stE h
    have hZ := z_si hZ eM2 ov0
    subst h
    exact hZ
  · obtain ⟨M1, eM1, h⟩ := stE h
    have hZ := z_si hZ eM1 ov0
    subst h
    exact hZ
set_option maxHeartbeats 4000000 in
set_option maxRecDepth 100000 in
theorem fo_MO_refer {K G O : Nat → Nat} {L : List Nat} {i : Nat} {out : Int32 × Mm} (v0 : Nat) (v1 : Int32) (v2 : Int32) (M : Mm) (hv0 : K v0 = 9) (ov0 : O v0 = i) (hI : ZI K G O L M) (h : f_MO_refer G v0 v1 v2 M = some out) : Zo K G O L i M out.2 := by
  unfold f_MO_refer at h
  have hZ := Zo.rf (i := i) hI
  obtain ⟨M1, eM1, h⟩ := stE h
  have hZ := z_si hZ eM1 ov0
  rcases ifC h with ⟨_, h⟩ | ⟨_, h⟩
  · rcases ifC h with ⟨_, h⟩ | ⟨_, h⟩
    · obtain ⟨M2, eM2, h⟩ := stE h
      have hZ := z_sl hZ eM2 ov0
      rcases ifC h with ⟨_, h⟩ | ⟨_, h⟩
      · obtain ⟨M3, eM3, h⟩ := stE h
        have hZ := z_sl hZ eM3 ov0
        obtain rfl := Option.some.inj h
        exact hZ
      · have q4 := (u_MO_proof hZ.2.1 hv0)
        have oq4 := (o_MO_proof hZ.2.2 hv0 ov0)
        obtain ⟨j5, hj5, h⟩ := ob h
        obtain ⟨M6, eM6, h⟩ := stE h
        have hZ := z_sl hZ eM6 ov0
        obtain rfl := Option.some.inj h
        exact hZ
    · have q7 := (u_MO_proof hZ.2.1 hv0)
      have oq7 := (o_MO_proof hZ.2.2 hv0 ov0)
      obtain ⟨j8, hj8, h⟩ := ob h
      obtain ⟨M9, eM9, h⟩ := stE h
      have hZ := z_sl hZ eM9 ov0
      rcases ifC h with ⟨_, h⟩ | ⟨_, h⟩
      · obtain ⟨M10, eM10, h⟩ := stE h
        have hZ := z_sl hZ eM10 ov0
        obtain rfl := Option.some.inj h
        exact hZ
      · have q11 := (u_MO_proof hZ.2.1 hv0)
        have oq11 := (o_MO_proof hZ.2.2 hv0 ov0)
        obtain ⟨j12, hj12, h⟩ := ob h
        obtain ⟨M13, eM13, h⟩ := stE h
        have hZ := z_sl hZ eM13 ov0
        obtain rfl := Option.some.inj h
        exact hZ
  · obtain rfl := Option.some.inj h
    exact hZ
set_option maxHeartbeats 4000000 in
set_option maxRecDepth 100000 in
theorem fo_MO_throughBranch_82 {K G O : Nat → Nat} {L : List Nat} {i : Nat} {out : Int32 × Mm} : ∀ (n : Nat) (v0 : Nat) (v3 : Int32) (v4 : Int32) (v5 : Int32) (M : Mm), K v0 = 9 → O v0 = i → ZI K G O L M → f_MO_throughBranch_82 G n v0 v3 v4 v5 M = some out → Zo K G O L i M out.2 := by
  intro n
  induction n with
  | zero => intro _ _ _ _ _ _ _ _ h; rw [f_MO_throughBranch_82] at h; cases h
  | succ n ih =>
    intro v0 v3 v4 v5 M hv0 ov0 hI h
    rw [f_MO_throughBranch_82] at h
    have hZ := Zo.rf (i := i) hI
    rcases ifC h with ⟨_, h⟩ | ⟨_, h⟩
    · obtain ⟨M1, eM1, h⟩ := stE h
      have hZ := z_si hZ eM1 ov0
      have q2 := (u_MO_proof hZ.2.1 hv0)
      have oq2 := (o_MO_proof hZ.2.2 hv0 ov0)
      obtain ⟨j3, hj3, h⟩ := ob h
      obtain ⟨q4, hq4, h⟩ := ob h
      have hZ := hZ.step (fo_MO_refer v0 (v3 + 1) ((gl M1 (gr M1 v0 10) j3).toInt32) M1 hv0 ov0 hZ.2 hq4)
      rcases ifC h with ⟨_, h⟩ | ⟨_, h⟩
      · obtain rfl := Option.some.inj h
        exact hZ
      · obtain rfl := Option.some.inj h
        exact hZ
    · have q5 := (u_MO_proof hZ.2.1 hv0)
      have oq5 := (o_MO_proof hZ.2.2 hv0 ov0)
      obtain ⟨j6, hj6, h⟩ := ob h
      obtain ⟨x7, ex7, h⟩ := stE h
      exact hZ.step (ih v0 x7 v4 (v5 + 1) M hv0 ov0 hZ.2 h)
set_option maxHeartbeats 4000000 in
set_option maxRecDepth 100000 in
theorem fo_MO_throughBranch {K G O : Nat → Nat} {L : List Nat} {i : Nat} {out : Int32 × Mm} (v0 : Nat) (M : Mm) (hv0 : K v0 = 9) (ov0 : O v0 = i) (hI : ZI K G O L M) (h : f_MO_throughBranch G v0 M = some out) : Zo K G O L i M out.2 := by
  unfold f_MO_throughBranch at h
  have hZ := Zo.rf (i := i) hI
  obtain ⟨q1, hq1, h⟩ := ob h
  rcases ifC h with ⟨_, h⟩ | ⟨_, h⟩
  · obtain rfl := Option.some.inj h
    exact hZ
  · obtain ⟨q2, hq2, h⟩ := ob h
    rcases ifC h with ⟨_, h⟩ | ⟨_, h⟩
    · obtain ⟨x3, ex3, h⟩ := stE h
      obtain ⟨M4, eM4, h⟩ := stE h
      have hZ := z_si hZ eM4 ov0
      rcases ifC h with ⟨_, h⟩ | ⟨_, h⟩
      · have q6 := (u_MO_proof hZ.2.1 hv0)
        have oq6 := (o_MO_proof hZ.2.2 hv0 ov0)
        obtain ⟨j7, hj7, h⟩ := ob h
        obtain ⟨M8, eM8, h⟩ := stE h
        have hZ := z_sl hZ eM8 ov0
        obtain rfl := Option.some.inj h
        exact hZ
      · obtain ⟨x5, ex5, h⟩ := stE h
        exact hZ.step (fo_MO_throughBranch_82 FU v0 (gi M v0 12) x5 0 M4 hv0 ov0 hZ.2 h)
    · obtain rfl := Option.some.inj h
      exact hZ
set_option maxHeartbeats 4000000 in
set_option maxRecDepth 100000 in
theorem fo_MO_throughTwo {K G O : Nat → Nat} {L : List Nat} {i : Nat} {out : Int32 × Mm} (v0 : Nat) (M : Mm) (hv0 : K v0 = 9) (ov0 : O v0 = i) (hI : ZI K G O L M) (h : f_MO_throughTwo G v0 M = out) : Zo K G O L i M out.2 := by
  unfold f_MO_throughTwo at h
  have hZ := Zo.rf (i := i) hI
  rcases ifC h with ⟨_, h⟩ | ⟨_, h⟩
  · rcases ifC h with ⟨_, h⟩ | ⟨_, h⟩
    · subst h
      exact hZ
    · rcases ifC h with ⟨_, h⟩ | ⟨_, h⟩
      · rcases ifC h with ⟨_, h⟩ | ⟨_, h⟩
        · rcases ifC h with ⟨_, h⟩ | ⟨_, h⟩
          · obtain ⟨M6, eM6, h⟩ := stE h
            have hZ := z_sl hZ eM6 ov0
            subst h
            exact hZ
          · obtain ⟨M5, eM5, h⟩ := stE h
            have hZ := z_sl hZ eM5 ov0
            subst h
            exact hZ
        · rcases ifC h with ⟨_, h⟩ | ⟨_, h⟩
          · obtain ⟨M4, eM4, h⟩ := stE h
            have hZ := z_sl hZ eM4 ov0
            subst h
            exact hZ
          · obtain ⟨M1, eM1, h⟩ := stE h
            have hZ := z_si hZ eM1 ov0
            obtain ⟨M2, eM2, h⟩ := stE h
            have hZ := z_sl hZ eM2 ov0
            obtain ⟨M3, eM3, h⟩ := stE h
            have hZ := z_si hZ eM3 ov0
            subst h
            exact hZ
      · subst h
        exact hZ
  · rcases ifC h with ⟨_, h⟩ | ⟨_, h⟩
    · obtain ⟨x7, ex7, h⟩ := stE h
      rcases ifC h with ⟨_, h⟩ | ⟨_, h⟩
      · subst h
        exact hZ
      · rcases ifC h with ⟨_, h⟩ | ⟨_, h⟩
        · rcases ifC h with ⟨_, h⟩ | ⟨_, h⟩
          · rcases ifC h with ⟨_, h⟩ | ⟨_, h⟩
            · obtain ⟨M13, eM13, h⟩ := stE h
              have hZ := z_sl hZ eM13 ov0
              subst h
              exact hZ
            · obtain ⟨M12, eM12, h⟩ := stE h
              have hZ := z_sl hZ eM12 ov0
              subst h
              exact hZ
          · rcases ifC h with ⟨_, h⟩ | ⟨_, h⟩
            · obtain ⟨M11, eM11, h⟩ := stE h
              have hZ := z_sl hZ eM11 ov0
              subst h
              exact hZ
            · obtain ⟨M8, eM8, h⟩ := stE h
              have hZ := z_si hZ eM8 ov0
              obtain ⟨M9, eM9, h⟩ := stE h
              have hZ := z_sl hZ eM9 ov0
              obtain ⟨M10, eM10, h⟩ := stE h
              have hZ := z_si hZ eM10 ov0
              subst h
              exact hZ
        · subst h
          exact hZ
    · rcases ifC h with ⟨_, h⟩ | ⟨_, h⟩
      · subst h
        exact hZ
      · rcases ifC h with ⟨_, h⟩ | ⟨_, h⟩
        · rcases ifC h with ⟨_, h⟩ | ⟨_, h⟩
          · rcases ifC h with ⟨_, h⟩ | ⟨_, h⟩
            · obtain ⟨M19, eM19, h⟩ := stE h
              have hZ := z_sl hZ eM19 ov0
              subst h
              exact hZ
            · obtain ⟨M18, eM18, h⟩ := stE h
              have hZ := z_sl hZ eM18 ov0
              subst h
              exact hZ
          · rcases ifC h with ⟨_, h⟩ | ⟨_, h⟩
            · obtain ⟨M17, eM17, h⟩ := stE h
              have hZ := z_sl hZ eM17 ov0
              subst h
              exact hZ
            · obtain ⟨M14, eM14, h⟩ := stE h
              have hZ := z_si hZ eM14 ov0
              obtain ⟨M15, eM15, h⟩ := stE h
              have hZ := z_sl hZ eM15 ov0
              obtain ⟨M16, eM16, h⟩ := stE h
              have hZ := z_si hZ eM16 ov0
              subst h
              exact hZ
        · subst h
          exact hZ
set_option maxHeartbeats 4000000 in
set_option maxRecDepth 100000 in
theorem fo_MO_verify_82 {K G O : Nat → Nat} {L : List Nat} {i : Nat} {out : Int32 × Mm} : ∀ (n : Nat) (v0 : Nat) (v4 : Int32) (v6 : Int32) (v7 : Int32) (M : Mm), K v0 = 9 → O v0 = i → ZI K G O L M → f_MO_verify_82 G n v0 v4 v6 v7 M = some out → Zo K G O L i M out.2 := by
  intro n
  induction n with
  | zero => intro _ _ _ _ _ _ _ _ h; rw [f_MO_verify_82] at h; cases h
  | succ n ih =>
    intro v0 v4 v6 v7 M hv0 ov0 hI h
    rw [f_MO_verify_82] at h
    have hZ := Zo.rf (i := i) hI
    rcases ifC h with ⟨_, h⟩ | ⟨_, h⟩
    · rcases ifC h with ⟨_, h⟩ | ⟨_, h⟩
      · rcases ifC h with ⟨_, h⟩ | ⟨_, h⟩
        · rcases ifC h with ⟨_, h⟩ | ⟨_, h⟩
          · obtain rfl := Option.some.inj h
            exact hZ
          · obtain rfl := Option.some.inj h
            exact hZ
        · obtain rfl := Option.some.inj h
          exact hZ
      · obtain rfl := Option.some.inj h
        exact hZ
    · rcases ifC h with ⟨_, h⟩ | ⟨_, h⟩
      · rcases ifC h with ⟨_, h⟩ | ⟨_, h⟩
        · obtain ⟨M3, eM3, h⟩ := stE h
          have hZ := z_sl hZ eM3 ov0
          exact hZ.step (ih v0 v4 1 (v7 + 1) M3 hv0 ov0 hZ.2 h)
        · rcases ifC h with ⟨_, h⟩ | ⟨_, h⟩
          · obtain ⟨q2, hq2, h⟩ := stE h
            have hZ := hZ.step (fo_MO_throughTwo v0 M hv0 ov0 hZ.2 hq2.symm)
            exact hZ.step (ih v0 v4 q2.1 (v7 + 1) q2.2 hv0 ov0 hZ.2 h)
          · obtain ⟨q1, hq1, h⟩ := ob h
            have hZ := hZ.step (fo_MO_throughBranch v0 M hv0 ov0 hZ.2 hq1)
            exact hZ.step (ih v0 v4 q1.1 (v7 + 1) q1.2 hv0 ov0 hZ.2 h)
      · rcases ifC h with ⟨_, h⟩ | ⟨_, h⟩
        · rcases ifC h with ⟨_, h⟩ | ⟨_, h⟩
          · rcases ifC h with ⟨_, h⟩ | ⟨_, h⟩
            · obtain rfl := Option.some.inj h
              exact hZ
            · obtain rfl := Option.some.inj h
              exact hZ
          · obtain rfl := Option.some.inj h
            exact hZ
        · obtain rfl := Option.some.inj h
          exact hZ
set_option maxHeartbeats 4000000 in
set_option maxRecDepth 100000 in
theorem fo_MO_verify {K G O : Nat → Nat} {L : List Nat} {i : Nat} {out : Int32 × Mm} (v0 : Nat) (v1 : Int64) (v3 : Int32) (v4 : Int32) (M : Mm) (hv0 : K v0 = 9) (ov0 : O v0 = i) (hI : ZI K G O L M) (h : f_MO_verify G v0 v1 v3 v4 M = some out) : Zo K G O L i M out.2 := by
  unfold f_MO_verify at h
  have hZ := Zo.rf (i := i) hI
  rcases ifC h with ⟨_, h⟩ | ⟨_, h⟩
  · obtain rfl := Option.some.inj h
    exact hZ
  · rcases ifC h with ⟨_, h⟩ | ⟨_, h⟩
    · obtain rfl := Option.some.inj h
      exact hZ
    · have q1 := (u_MO_proof hZ.2.1 hv0)
      have oq1 := (o_MO_proof hZ.2.2 hv0 ov0)
      obtain ⟨j2, hj2, h⟩ := ob h
      rcases ifC h with ⟨_, h⟩ | ⟨_, h⟩
      · obtain rfl := Option.some.inj h
        exact hZ
      · have q3 := (u_MO_proof hZ.2.1 hv0)
        have oq3 := (o_MO_proof hZ.2.2 hv0 ov0)
        obtain ⟨j4, hj4, h⟩ := ob h
        obtain ⟨x5, ex5, h⟩ := stE h
        obtain ⟨q6, hq6, h⟩ := ob h
        have hZ := hZ.step (fo_MO_refer v0 1 x5 M hv0 ov0 hZ.2 hq6)
        rcases ifC h with ⟨_, h⟩ | ⟨_, h⟩
        · obtain rfl := Option.some.inj h
          exact hZ
        · obtain ⟨q7, hq7, h⟩ := ob h
          rcases ifC h with ⟨_, h⟩ | ⟨_, h⟩
          · obtain ⟨M8, eM8, h⟩ := stE h
            have hZ := z_si hZ eM8 ov0
            obtain ⟨M9, eM9, h⟩ := stE h
            have hZ := z_si hZ eM9 ov0
            exact hZ.step (fo_MO_verify_82 FU v0 v4 0 0 M9 hv0 ov0 hZ.2 h)
          · obtain rfl := Option.some.inj h
            exact hZ
