/-! each answer in one form: the number, the heap behind it -/
theorem T_map {α β : Type} {X : dX} {D : Nat} {y : MethodName} {cc : ByteArray} {nL : Nat} {rt : Option FieldType} {φ : α → Option Value × dH} {ψ : β → Option Value × dH} {as : List Value} {h : dH} {o : Option α} (g : α → β) (hg : ∀ z, φ z = ψ (g z)) (hT : T X D y cc nL rt φ as h o) : T X D y cc nL rt ψ as h (o.map g) := by
  intro x hx
  obtain ⟨z, hz, e⟩ := Option.map_eq_some_iff.mp hx
  subst e
  rw [← hg z]
  exact hT z hz
def aC_feed (x1 : Int32) (x2 : Int32) (x3 : Int32) (x4 : Int32) (x5 : Int32) (h : dH) : Option (Int32 × dH) := f_X11_feed x1 x2 x3 x4 x5 h
theorem taC_feed (x1 : Int32) (x2 : Int32) (x3 : Int32) (x4 : Int32) (x5 : Int32) (h : dH) : T XC 1 yX11_feed cX11_feed 7 (some .int) fiI [.ref 0, .int x1, .int x2, .int x3, .int x4, .int x5] h (aC_feed x1 x2 x3 x4 x5 h) := t_X11_feed x1 x2 x3 x4 x5 h
def aM_feed (x1 : Int32) (x2 : Int32) (x3 : Int32) (x4 : Int32) (x5 : Int32) (h : dH) : Option (Int32 × dH) := f_X12_feed x1 x2 x3 x4 x5 h
theorem taM_feed (x1 : Int32) (x2 : Int32) (x3 : Int32) (x4 : Int32) (x5 : Int32) (h : dH) : T XM 1 yX12_feed cX12_feed 6 (some .int) fiI [.ref 0, .int x1, .int x2, .int x3, .int x4, .int x5] h (aM_feed x1 x2 x3 x4 x5 h) := t_X12_feed x1 x2 x3 x4 x5 h
def aC_end (x1 : Int32) (h : dH) : Option (Int32 × dH) := (f_X11_end x1 h).map (fun q : Bool × dH => (bi q.1, q.2))
theorem taC_end (x1 : Int32) (h : dH) : T XC 0 yX11_end cX11_end 2 (some .boolean) fiI [.ref 0, .int x1] h (aC_end x1 h) := T_map (fun q : Bool × dH => (bi q.1, q.2)) (fun _ => rfl) (t_X11_end x1 h)
def aM_end (x1 : Int32) (h : dH) : Option (Int32 × dH) := (f_X12_end x1 h).map (fun q : Bool × dH => (bi q.1, q.2))
theorem taM_end (x1 : Int32) (h : dH) : T XM 0 yX12_end cX12_end 2 (some .boolean) fiI [.ref 0, .int x1] h (aM_end x1 h) := T_map (fun q : Bool × dH => (bi q.1, q.2)) (fun _ => rfl) (t_X12_end x1 h)
def aC_fault (x1 : Int32) (h : dH) : Option (Int32 × dH) := f_X11_fault x1 h
theorem taC_fault (x1 : Int32) (h : dH) : T XC 82 yX11_fault cX11_fault 2 (some .int) fiI [.ref 0, .int x1] h (aC_fault x1 h) := t_X11_fault x1 h
def aM_fault (x1 : Int32) (h : dH) : Option (Int32 × dH) := f_X12_fault x1 h
theorem taM_fault (x1 : Int32) (h : dH) : T XM 83 yX12_fault cX12_fault 2 (some .int) fiI [.ref 0, .int x1] h (aM_fault x1 h) := t_X12_fault x1 h
def aC_text (x1 : Int32) (h : dH) : Option (Int32 × dH) := f_X11_text x1 h
theorem taC_text (x1 : Int32) (h : dH) : T XC 83 yX11_text cX11_text 3 (some .int) fiI [.ref 0, .int x1] h (aC_text x1 h) := t_X11_text x1 h
def aM_text (x1 : Int32) (h : dH) : Option (Int32 × dH) := f_X12_text x1 h
theorem taM_text (x1 : Int32) (h : dH) : T XM 84 yX12_text cX12_text 4 (some .int) fiI [.ref 0, .int x1] h (aM_text x1 h) := t_X12_text x1 h
def aC_rule (x1 : Int32) (h : dH) : Option (Int32 × dH) := (f_X11_rule x1 h).map (fun v => (v, h))
theorem taC_rule (x1 : Int32) (h : dH) : T XC 1 yX11_rule cX11_rule 2 (some .int) fiI [.ref 0, .int x1] h (aC_rule x1 h) := T_map (fun v => (v, h)) (fun _ => rfl) (t_X11_rule x1 h)
def aM_rule (x1 : Int32) (h : dH) : Option (Int32 × dH) := f_X12_rule x1 h
theorem taM_rule (x1 : Int32) (h : dH) : T XM 1 yX12_rule cX12_rule 2 (some .int) fiI [.ref 0, .int x1] h (aM_rule x1 h) := t_X12_rule x1 h
def aC_law (x1 : Int32) (h : dH) : Option (Int32 × dH) := (f_X11_law x1 h).map (fun q : Bool × dH => (bi q.1, q.2))
theorem taC_law (x1 : Int32) (h : dH) : T XC 0 yX11_law cX11_law 2 (some .boolean) fiI [.ref 0, .int x1] h (aC_law x1 h) := T_map (fun q : Bool × dH => (bi q.1, q.2)) (fun _ => rfl) (t_X11_law x1 h)
def aM_law (x1 : Int32) (h : dH) : Option (Int32 × dH) := (f_X12_law x1 h).map (fun q : Bool × dH => (bi q.1, q.2))
theorem taM_law (x1 : Int32) (h : dH) : T XM 1 yX12_law cX12_law 2 (some .boolean) fiI [.ref 0, .int x1] h (aM_law x1 h) := T_map (fun q : Bool × dH => (bi q.1, q.2)) (fun _ => rfl) (t_X12_law x1 h)
def aC_gout (x1 : Int32) (h : dH) : Option (Int32 × dH) := (f_X11_gout x1 h).map (fun q : Bool × dH => (bi q.1, q.2))
theorem taC_gout (x1 : Int32) (h : dH) : T XC 0 yX11_gout cX11_gout 2 (some .boolean) fiI [.ref 0, .int x1] h (aC_gout x1 h) := T_map (fun q : Bool × dH => (bi q.1, q.2)) (fun _ => rfl) (t_X11_gout x1 h)
def aM_gout (x1 : Int32) (h : dH) : Option (Int32 × dH) := (f_X12_gout x1 h).map (fun q : Bool × dH => (bi q.1, q.2))
theorem taM_gout (x1 : Int32) (h : dH) : T XM 1 yX12_gout cX12_gout 2 (some .boolean) fiI [.ref 0, .int x1] h (aM_gout x1 h) := T_map (fun q : Bool × dH => (bi q.1, q.2)) (fun _ => rfl) (t_X12_gout x1 h)
def aC_steps (x1 : Int32) (x2 : Int32) (h : dH) : Option (Int32 × dH) := (f_X11_steps x1 x2 h).map (fun v => (v, h))
theorem taC_steps (x1 : Int32) (x2 : Int32) (h : dH) : T XC 1 yX11_steps cX11_steps 3 (some .int) fiI [.ref 0, .int x1, .int x2] h (aC_steps x1 x2 h) := T_map (fun v => (v, h)) (fun _ => rfl) (t_X11_steps x1 x2 h)
def aM_steps (x1 : Int32) (x2 : Int32) (h : dH) : Option (Int32 × dH) := f_X12_steps x1 x2 h
theorem taM_steps (x1 : Int32) (x2 : Int32) (h : dH) : T XM 3 yX12_steps cX12_steps 3 (some .int) fiI [.ref 0, .int x1, .int x2] h (aM_steps x1 x2 h) := t_X12_steps x1 x2 h
def aC_walk (x1 : Int32) (h : dH) : Option (Int32 × dH) := f_X11_walk x1 h
theorem taC_walk (x1 : Int32) (h : dH) : T XC 6 yX11_walk cX11_walk 2 (some .int) fiI [.ref 0, .int x1] h (aC_walk x1 h) := t_X11_walk x1 h
def aM_walk (x1 : Int32) (h : dH) : Option (Int32 × dH) := f_X12_walk x1 h
theorem taM_walk (x1 : Int32) (h : dH) : T XM 86 yX12_walk cX12_walk 2 (some .int) fiI [.ref 0, .int x1] h (aM_walk x1 h) := t_X12_walk x1 h
def aC_ledge (h : dH) : Option (Int32 × dH) := f_X11_ledge h
theorem taC_ledge (h : dH) : T XC 6 yX11_ledge cX11_ledge 1 (some .int) fiI [.ref 0] h (aC_ledge h) := t_X11_ledge  h
def aM_ledge (h : dH) : Option (Int32 × dH) := f_X12_ledge h
theorem taM_ledge (h : dH) : T XM 2 yX12_ledge cX12_ledge 1 (some .int) fiI [.ref 0] h (aM_ledge h) := t_X12_ledge  h
def aC_restore (x1 : Int32) (h : dH) : Option (Int32 × dH) := f_X11_restore x1 h
theorem taC_restore (x1 : Int32) (h : dH) : T XC 6 yX11_restore cX11_restore 2 (some .int) fiI [.ref 0, .int x1] h (aC_restore x1 h) := t_X11_restore x1 h
def aM_restore (x1 : Int32) (h : dH) : Option (Int32 × dH) := f_X12_restore x1 h
theorem taM_restore (x1 : Int32) (h : dH) : T XM 2 yX12_restore cX12_restore 2 (some .int) fiI [.ref 0, .int x1] h (aM_restore x1 h) := t_X12_restore x1 h
def aC_patience (x1 : Int32) (x2 : Int32) (h : dH) : Option (Int32 × dH) := f_X11_patience x1 x2 h
theorem taC_patience (x1 : Int32) (x2 : Int32) (h : dH) : T XC 3 yX11_patience cX11_patience 4 (some .int) fiI [.ref 0, .int x1, .int x2] h (aC_patience x1 x2 h) := t_X11_patience x1 x2 h
def aM_patience (x1 : Int32) (x2 : Int32) (h : dH) : Option (Int32 × dH) := f_X12_patience x1 x2 h
theorem taM_patience (x1 : Int32) (x2 : Int32) (h : dH) : T XM 1 yX12_patience cX12_patience 4 (some .int) fiI [.ref 0, .int x1, .int x2] h (aM_patience x1 x2 h) := t_X12_patience x1 x2 h
def aC_day (h : dH) : Option (Int32 × dH) := f_X11_day h
theorem taC_day (h : dH) : T XC 6 yX11_day cX11_day 1 (some .int) fiI [.ref 0] h (aC_day h) := t_X11_day  h
def aM_day (h : dH) : Option (Int32 × dH) := f_X12_day h
theorem taM_day (h : dH) : T XM 2 yX12_day cX12_day 1 (some .int) fiI [.ref 0] h (aM_day h) := t_X12_day  h
def aC_years (x1 : Int32) (x2 : Int64) (h : dH) : Option (Int32 × dH) := f_X11_years x1 x2 h
theorem taC_years (x1 : Int32) (x2 : Int64) (h : dH) : T XC 6 yX11_years cX11_years 8 (some .int) fiI [.ref 0, .int x1, .long x2] h (aC_years x1 x2 h) := t_X11_years x1 x2 h
def aM_years (x1 : Int32) (x2 : Int64) (h : dH) : Option (Int32 × dH) := f_X12_years x1 x2 h
theorem taM_years (x1 : Int32) (x2 : Int64) (h : dH) : T XM 86 yX12_years cX12_years 8 (some .int) fiI [.ref 0, .int x1, .long x2] h (aM_years x1 x2 h) := t_X12_years x1 x2 h
def aC_undo (h : dH) : Option (Int32 × dH) := f_X11_undo h
theorem taC_undo (h : dH) : T XC 3 yX11_undo cX11_undo 1 (some .int) fiI [.ref 0] h (aC_undo h) := t_X11_undo  h
def aM_undo (h : dH) : Option (Int32 × dH) := f_X12_undo h
theorem taM_undo (h : dH) : T XM 0 yX12_undo cX12_undo 2 (some .int) fiI [.ref 0] h (aM_undo h) := t_X12_undo  h
def aC_log (x1 : Int32) (x2 : Int32) (h : dH) : Option (Int32 × dH) := (f_X11_log x1 x2 h).map (fun v => (v, h))
theorem taC_log (x1 : Int32) (x2 : Int32) (h : dH) : T XC 4 yX11_log cX11_log 3 (some .int) fiI [.ref 0, .int x1, .int x2] h (aC_log x1 x2 h) := T_map (fun v => (v, h)) (fun _ => rfl) (t_X11_log x1 x2 h)
def aM_log (x1 : Int32) (x2 : Int32) (h : dH) : Option (Int32 × dH) := f_X12_log x1 x2 h
theorem taM_log (x1 : Int32) (x2 : Int32) (h : dH) : T XM 1 yX12_log cX12_log 3 (some .int) fiI [.ref 0, .int x1, .int x2] h (aM_log x1 x2 h) := t_X12_log x1 x2 h
def aC_step (x1 : Int32) (x2 : Int32) (x3 : Int32) (h : dH) : Option (Int32 × dH) := (f_X11_step x1 x2 x3 h).map (fun v => (v, h))
theorem taC_step (x1 : Int32) (x2 : Int32) (x3 : Int32) (h : dH) : T XC 3 yX11_step cX11_step 4 (some .int) fiI [.ref 0, .int x1, .int x2, .int x3] h (aC_step x1 x2 x3 h) := T_map (fun v => (v, h)) (fun _ => rfl) (t_X11_step x1 x2 x3 h)
def aM_step (x1 : Int32) (x2 : Int32) (x3 : Int32) (h : dH) : Option (Int32 × dH) := f_X12_step x1 x2 x3 h
theorem taM_step (x1 : Int32) (x2 : Int32) (x3 : Int32) (h : dH) : T XM 1 yX12_step cX12_step 4 (some .int) fiI [.ref 0, .int x1, .int x2, .int x3] h (aM_step x1 x2 x3 h) := t_X12_step x1 x2 x3 h
def aC_run (x1 : Int32) (x2 : Int32) (h : dH) : Option (Int32 × dH) := f_X11_run x1 x2 h
theorem taC_run (x1 : Int32) (x2 : Int32) (h : dH) : T XC 6 yX11_run cX11_run 5 (some .int) fiI [.ref 0, .int x1, .int x2] h (aC_run x1 x2 h) := t_X11_run x1 x2 h
def aM_run (x1 : Int32) (x2 : Int32) (h : dH) : Option (Int32 × dH) := f_X12_run x1 x2 h
theorem taM_run (x1 : Int32) (x2 : Int32) (h : dH) : T XM 87 yX12_run cX12_run 4 (some .int) fiI [.ref 0, .int x1, .int x2] h (aM_run x1 x2 h) := t_X12_run x1 x2 h
def aC_perform (x1 : Int32) (h : dH) : Option (Int32 × dH) := f_X11_perform x1 h
theorem taC_perform (x1 : Int32) (h : dH) : T XC 6 yX11_perform cX11_perform 4 (some .int) fiI [.ref 0, .int x1] h (aC_perform x1 h) := t_X11_perform x1 h
def aM_perform (x1 : Int32) (h : dH) : Option (Int32 × dH) := f_X12_perform x1 h
theorem taM_perform (x1 : Int32) (h : dH) : T XM 87 yX12_perform cX12_perform 3 (some .int) fiI [.ref 0, .int x1] h (aM_perform x1 h) := t_X12_perform x1 h
def aC_troubles (x1 : Int32) (h : dH) : Option (Int32 × dH) := f_X11_troubles x1 h
theorem taC_troubles (x1 : Int32) (h : dH) : T XC 4 yX11_troubles cX11_troubles 2 (some .int) fiI [.ref 0, .int x1] h (aC_troubles x1 h) := t_X11_troubles x1 h
def aM_troubles (x1 : Int32) (h : dH) : Option (Int32 × dH) := f_X12_troubles x1 h
theorem taM_troubles (x1 : Int32) (h : dH) : T XM 85 yX12_troubles cX12_troubles 2 (some .int) fiI [.ref 0, .int x1] h (aM_troubles x1 h) := t_X12_troubles x1 h
def aC_sees (x1 : Int32) (h : dH) : Option (Int32 × dH) := f_X11_sees x1 h
theorem taC_sees (x1 : Int32) (h : dH) : T XC 15 yX11_sees cX11_sees 2 (some .int) fiI [.ref 0, .int x1] h (aC_sees x1 h) := t_X11_sees x1 h
def aM_sees (x1 : Int32) (h : dH) : Option (Int32 × dH) := f_X12_sees x1 h
theorem taM_sees (x1 : Int32) (h : dH) : T XM 96 yX12_sees cX12_sees 2 (some .int) fiI [.ref 0, .int x1] h (aM_sees x1 h) := t_X12_sees x1 h
def aC_least (x1 : Int32) (x2 : Int32) (h : dH) : Option (Int32 × dH) := f_X11_least x1 x2 h
theorem taC_least (x1 : Int32) (x2 : Int32) (h : dH) : T XC 14 yX11_least cX11_least 3 (some .int) fiI [.ref 0, .int x1, .int x2] h (aC_least x1 x2 h) := t_X11_least x1 x2 h
def aM_least (x1 : Int32) (x2 : Int32) (h : dH) : Option (Int32 × dH) := f_X12_least x1 x2 h
theorem taM_least (x1 : Int32) (x2 : Int32) (h : dH) : T XM 96 yX12_least cX12_least 3 (some .int) fiI [.ref 0, .int x1, .int x2] h (aM_least x1 x2 h) := t_X12_least x1 x2 h
def aC_manners (x1 : Int32) (h : dH) : Option (Int32 × dH) := (f_X11_manners x1 h).map (fun v => (v, h))
theorem taC_manners (x1 : Int32) (h : dH) : T XC 4 yX11_manners cX11_manners 4 (some .int) fiI [.ref 0, .int x1] h (aC_manners x1 h) := T_map (fun v => (v, h)) (fun _ => rfl) (t_X11_manners x1 h)
def aM_manners (x1 : Int32) (h : dH) : Option (Int32 × dH) := f_X12_manners x1 h
theorem taM_manners (x1 : Int32) (h : dH) : T XM 86 yX12_manners cX12_manners 5 (some .int) fiI [.ref 0, .int x1] h (aM_manners x1 h) := t_X12_manners x1 h
def aC_noted (x1 : Int32) (x2 : Int32) (x3 : Bool) (h : dH) : Option (Int32 × dH) := f_X11_noted x1 x2 x3 h
theorem taC_noted (x1 : Int32) (x2 : Int32) (x3 : Bool) (h : dH) : T XC 1 yX11_noted cX11_noted 4 (some .int) fiI [.ref 0, .int x1, .int x2, .int (bi x3)] h (aC_noted x1 x2 x3 h) := t_X11_noted x1 x2 x3 h
def aM_noted (x1 : Int32) (x2 : Int32) (x3 : Bool) (h : dH) : Option (Int32 × dH) := f_X12_noted x1 x2 x3 h
theorem taM_noted (x1 : Int32) (x2 : Int32) (x3 : Bool) (h : dH) : T XM 1 yX12_noted cX12_noted 4 (some .int) fiI [.ref 0, .int x1, .int x2, .int (bi x3)] h (aM_noted x1 x2 x3 h) := t_X12_noted x1 x2 x3 h
def aC_ways (x1 : Int32) (x2 : Int32) (h : dH) : Option (Int32 × dH) := f_X11_ways x1 x2 h
theorem taC_ways (x1 : Int32) (x2 : Int32) (h : dH) : T XC 11 yX11_ways cX11_ways 3 (some .int) fiI [.ref 0, .int x1, .int x2] h (aC_ways x1 x2 h) := t_X11_ways x1 x2 h
def aM_ways (x1 : Int32) (x2 : Int32) (h : dH) : Option (Int32 × dH) := f_X12_ways x1 x2 h
theorem taM_ways (x1 : Int32) (x2 : Int32) (h : dH) : T XM 10 yX12_ways cX12_ways 3 (some .int) fiI [.ref 0, .int x1, .int x2] h (aM_ways x1 x2 h) := t_X12_ways x1 x2 h
def aC_ask (x1 : Int32) (x2 : Int32) (h : dH) : Option (Int32 × dH) := f_X11_ask x1 x2 h
theorem taC_ask (x1 : Int32) (x2 : Int32) (h : dH) : T XC 11 yX11_ask cX11_ask 3 (some .int) fiI [.ref 0, .int x1, .int x2] h (aC_ask x1 x2 h) := t_X11_ask x1 x2 h
def aM_ask (x1 : Int32) (x2 : Int32) (h : dH) : Option (Int32 × dH) := f_X12_ask x1 x2 h
theorem taM_ask (x1 : Int32) (x2 : Int32) (h : dH) : T XM 10 yX12_ask cX12_ask 5 (some .int) fiI [.ref 0, .int x1, .int x2] h (aM_ask x1 x2 h) := t_X12_ask x1 x2 h
def aC_always (x1 : Int32) (h : dH) : Option (Int32 × dH) := f_X11_always x1 h
theorem taC_always (x1 : Int32) (h : dH) : T XC 11 yX11_always cX11_always 2 (some .int) fiI [.ref 0, .int x1] h (aC_always x1 h) := t_X11_always x1 h
def aM_always (x1 : Int32) (h : dH) : Option (Int32 × dH) := f_X12_always x1 h
theorem taM_always (x1 : Int32) (h : dH) : T XM 10 yX12_always cX12_always 2 (some .int) fiI [.ref 0, .int x1] h (aM_always x1 h) := t_X12_always x1 h
def aC_round (x1 : Int32) (h : dH) : Option (Int32 × dH) := (f_X11_round x1 h).map (fun v => (v, h))
theorem taC_round (x1 : Int32) (h : dH) : T XC 3 yX11_round cX11_round 2 (some .int) fiI [.ref 0, .int x1] h (aC_round x1 h) := T_map (fun v => (v, h)) (fun _ => rfl) (t_X11_round x1 h)
def aM_round (x1 : Int32) (h : dH) : Option (Int32 × dH) := f_X12_round x1 h
theorem taM_round (x1 : Int32) (h : dH) : T XM 3 yX12_round cX12_round 2 (some .int) fiI [.ref 0, .int x1] h (aM_round x1 h) := t_X12_round x1 h
def aC_meets (x1 : Int32) (x2 : Int32) (h : dH) : Option (Int32 × dH) := f_X11_meets x1 x2 h
theorem taC_meets (x1 : Int32) (x2 : Int32) (h : dH) : T XC 4 yX11_meets cX11_meets 3 (some .int) fiI [.ref 0, .int x1, .int x2] h (aC_meets x1 x2 h) := t_X11_meets x1 x2 h
def aM_meets (x1 : Int32) (x2 : Int32) (h : dH) : Option (Int32 × dH) := f_X12_meets x1 x2 h
theorem taM_meets (x1 : Int32) (x2 : Int32) (h : dH) : T XM 86 yX12_meets cX12_meets 7 (some .int) fiI [.ref 0, .int x1, .int x2] h (aM_meets x1 x2 h) := t_X12_meets x1 x2 h
def aC_game (x1 : Int32) (x2 : Int32) (x3 : Int32) (x4 : Int32) (x5 : Int32) (h : dH) : Option (Int32 × dH) := f_X11_game x1 x2 x3 x4 x5 h
theorem taC_game (x1 : Int32) (x2 : Int32) (x3 : Int32) (x4 : Int32) (x5 : Int32) (h : dH) : T XC 5 yX11_game cX11_game 6 (some .int) fiI [.ref 0, .int x1, .int x2, .int x3, .int x4, .int x5] h (aC_game x1 x2 x3 x4 x5 h) := t_X11_game x1 x2 x3 x4 x5 h
def aM_game (x1 : Int32) (x2 : Int32) (x3 : Int32) (x4 : Int32) (x5 : Int32) (h : dH) : Option (Int32 × dH) := f_X12_game x1 x2 x3 x4 x5 h
theorem taM_game (x1 : Int32) (x2 : Int32) (x3 : Int32) (x4 : Int32) (x5 : Int32) (h : dH) : T XM 86 yX12_game cX12_game 6 (some .int) fiI [.ref 0, .int x1, .int x2, .int x3, .int x4, .int x5] h (aM_game x1 x2 x3 x4 x5 h) := t_X12_game x1 x2 x3 x4 x5 h
def aC_rests (x1 : Int32) (x2 : Int32) (x3 : Int32) (h : dH) : Option (Int32 × dH) := f_X11_rests x1 x2 x3 h
theorem taC_rests (x1 : Int32) (x2 : Int32) (x3 : Int32) (h : dH) : T XC 6 yX11_rests cX11_rests 7 (some .int) fiI [.ref 0, .int x1, .int x2, .int x3] h (aC_rests x1 x2 x3 h) := t_X11_rests x1 x2 x3 h
def aM_rests (x1 : Int32) (x2 : Int32) (x3 : Int32) (h : dH) : Option (Int32 × dH) := f_X12_rests x1 x2 x3 h
theorem taM_rests (x1 : Int32) (x2 : Int32) (x3 : Int32) (h : dH) : T XM 86 yX12_rests cX12_rests 9 (some .int) fiI [.ref 0, .int x1, .int x2, .int x3] h (aM_rests x1 x2 x3 h) := t_X12_rests x1 x2 x3 h
def aC_odds (x1 : Int32) (x2 : Int32) (x3 : Int32) (h : dH) : Option (Int32 × dH) := f_X11_odds x1 x2 x3 h
theorem taC_odds (x1 : Int32) (x2 : Int32) (x3 : Int32) (h : dH) : T XC 13 yX11_odds cX11_odds 4 (some .int) fiI [.ref 0, .int x1, .int x2, .int x3] h (aC_odds x1 x2 x3 h) := t_X11_odds x1 x2 x3 h
def aM_odds (x1 : Int32) (x2 : Int32) (x3 : Int32) (h : dH) : Option (Int32 × dH) := f_X12_odds x1 x2 x3 h
theorem taM_odds (x1 : Int32) (x2 : Int32) (x3 : Int32) (h : dH) : T XM 12 yX12_odds cX12_odds 4 (some .int) fiI [.ref 0, .int x1, .int x2, .int x3] h (aM_odds x1 x2 x3 h) := t_X12_odds x1 x2 x3 h
def aC_cost (x1 : Int32) (h : dH) : Option (Int32 × dH) := (f_X11_cost x1 h).map (fun v => (v, h))
theorem taC_cost (x1 : Int32) (h : dH) : T XC 1 yX11_cost cX11_cost 2 (some .int) fiI [.ref 0, .int x1] h (aC_cost x1 h) := T_map (fun v => (v, h)) (fun _ => rfl) (t_X11_cost x1 h)
def aM_cost (x1 : Int32) (h : dH) : Option (Int32 × dH) := f_X12_cost x1 h
theorem taM_cost (x1 : Int32) (h : dH) : T XM 3 yX12_cost cX12_cost 2 (some .int) fiI [.ref 0, .int x1] h (aM_cost x1 h) := t_X12_cost x1 h
def aC_all (x1 : Int32) (h : dH) : Option (Int32 × dH) := (f_X11_all x1 h).map (fun v => (v, h))
theorem taC_all (x1 : Int32) (h : dH) : T XC 4 yX11_all cX11_all 2 (some .int) fiI [.ref 0, .int x1] h (aC_all x1 h) := T_map (fun v => (v, h)) (fun _ => rfl) (t_X11_all x1 h)
def aM_all (x1 : Int32) (h : dH) : Option (Int32 × dH) := f_X12_all x1 h
theorem taM_all (x1 : Int32) (h : dH) : T XM 5 yX12_all cX12_all 2 (some .int) fiI [.ref 0, .int x1] h (aM_all x1 h) := t_X12_all x1 h
def aC_kinds (x1 : Int32) (h : dH) : Option (Int32 × dH) := (f_X11_kinds x1 h).map (fun v => (v, h))
theorem taC_kinds (x1 : Int32) (h : dH) : T XC 3 yX11_kinds cX11_kinds 2 (some .int) fiI [.ref 0, .int x1] h (aC_kinds x1 h) := T_map (fun v => (v, h)) (fun _ => rfl) (t_X11_kinds x1 h)
def aM_kinds (x1 : Int32) (h : dH) : Option (Int32 × dH) := f_X12_kinds x1 h
theorem taM_kinds (x1 : Int32) (h : dH) : T XM 1 yX12_kinds cX12_kinds 4 (some .int) fiI [.ref 0, .int x1] h (aM_kinds x1 h) := t_X12_kinds x1 h
def aC_calm (x1 : Int32) (h : dH) : Option (Int32 × dH) := (f_X11_calm x1 h).map (fun v => (v, h))
theorem taC_calm (x1 : Int32) (h : dH) : T XC 2 yX11_calm cX11_calm 3 (some .int) fiI [.ref 0, .int x1] h (aC_calm x1 h) := T_map (fun v => (v, h)) (fun _ => rfl) (t_X11_calm x1 h)
def aM_calm (x1 : Int32) (h : dH) : Option (Int32 × dH) := f_X12_calm x1 h
theorem taM_calm (x1 : Int32) (h : dH) : T XM 1 yX12_calm cX12_calm 3 (some .int) fiI [.ref 0, .int x1] h (aM_calm x1 h) := t_X12_calm x1 h
def aC_image (h : dH) : Option (Int32 × dH) := f_X11_image h
theorem taC_image (h : dH) : T XC 2 yX11_image cX11_image 1 (some .int) fiI [.ref 0] h (aC_image h) := t_X11_image  h
def aM_image (h : dH) : Option (Int32 × dH) := f_X12_image h
theorem taM_image (h : dH) : T XM 0 yX12_image cX12_image 2 (some .int) fiI [.ref 0] h (aM_image h) := t_X12_image  h
def aC_back (h : dH) : Option (Int32 × dH) := f_X11_back h
theorem taC_back (h : dH) : T XC 2 yX11_back cX11_back 1 (some .int) fiI [.ref 0] h (aC_back h) := t_X11_back  h
def aM_back (h : dH) : Option (Int32 × dH) := f_X12_back h
theorem taM_back (h : dH) : T XM 0 yX12_back cX12_back 2 (some .int) fiI [.ref 0] h (aM_back h) := t_X12_back  h
def aC_count (x1 : Int32) (h : dH) : Option (Int32 × dH) := some (f_X11_count x1 h, h)
theorem taC_count (x1 : Int32) (h : dH) : T XC 2 yX11_count cX11_count 2 (some .int) fiI [.ref 0, .int x1] h (aC_count x1 h) := T_map (o := some (f_X11_count x1 h)) (fun v => (v, h)) (fun _ => rfl) (t_X11_count x1 h)
def aM_count (x1 : Int32) (h : dH) : Option (Int32 × dH) := f_X12_count x1 h
theorem taM_count (x1 : Int32) (h : dH) : T XM 1 yX12_count cX12_count 2 (some .int) fiI [.ref 0, .int x1] h (aM_count x1 h) := t_X12_count x1 h
