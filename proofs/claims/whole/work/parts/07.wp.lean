theorem zev_mono (X : zX) : ∀ (n : Nat) {k d : Nat} {m : zM} {pc : Nat} {ls st : List Value} {h : zH} {o : Option Value × zH}, n ≤ k → zev X n d m pc ls st h = some o → zev X k d m pc ls st h = some o := by
  intro n
  induction n with
  | zero => intro k d m pc ls st h o _ he; simp [zev] at he
  | succ n ih =>
    intro k d m pc ls st h o hk he
    obtain ⟨k, rfl⟩ : ∃ j, k = j + 1 := ⟨k - 1, by omega⟩
    have hk' : n ≤ k := by omega
    unfold zev at he ⊢
    revert he
    cases zstep X m pc ls st h with
    | none => intro he; exact he
    | some q =>
      rcases q with ⟨pc', ls', st', h'⟩ | ⟨m', as, rest, pc'⟩ | v
      · intro he; exact ih hk' he
      · cases d with
        | zero => intro he; exact he
        | succ d' =>
          dsimp only
          cases hc : zev X n d' m' 0 (zpad as m'.2.2.2.1) [] h with
          | none => intro he; cases he
          | some q =>
            rw [ih hk' hc]
            intro he
            exact ih hk' he
      · intro he; exact he
/-- from here it returns, at most d calls open, and Q holds of the answer and the heap -/
def zwp (X : zX) (d : Nat) (m : zM) (pc : Nat) (ls st : List Value) (h : zH) (Q : Option Value → zH → Prop) : Prop := ∃ n v h', zev X n d m pc ls st h = some (v, h') ∧ Q v h'
def zwK (X : zX) (d : Nat) (m : zM) (ls : List Value) (h : zH) (Q : Option Value → zH → Prop) (r : zR4) : Prop := match r with
  | some (.inl (pc', ls', st', h')) => zwp X d m pc' ls' st' h' Q
  | some (.inr (.inl (m', as, rest, pc'))) => 0 < d ∧ zwp X (d - 1) m' 0 (zpad as m'.2.2.2.1) [] h (fun v h' => zwp X d m pc' ls (v.toList ++ rest) h' Q)
  | some (.inr (.inr v)) => Q v h
  | none => False
theorem zwp_step (X : zX) (d : Nat) (m : zM) (pc : Nat) (ls st : List Value) (h : zH) (Q : Option Value → zH → Prop) : zwp X d m pc ls st h Q = zwK X d m ls h Q (zstep X m pc ls st h) := by
  apply propext
  constructor
  · rintro ⟨n, v, h', he, hQ⟩
    cases n with
    | zero => simp [zev] at he
    | succ n =>
      unfold zev at he
      revert he
      cases zstep X m pc ls st h with
      | none => intro he; cases he
      | some q =>
        rcases q with ⟨pc', ls', st', h1⟩ | ⟨m', as, rest, pc'⟩ | w
        · intro he; exact ⟨n, v, h', he, hQ⟩
        · cases d with
          | zero => intro he; cases he
          | succ d' =>
            dsimp only
            cases hc : zev X n d' m' 0 (zpad as m'.2.2.2.1) [] h with
            | none => intro he; cases he
            | some q => intro he; exact ⟨Nat.succ_pos d', n, q.1, q.2, hc, n, v, h', he, hQ⟩
        · intro he; cases he; exact hQ
  · intro hk
    cases hs : zstep X m pc ls st h with
    | none => rw [hs] at hk; cases hk
    | some q =>
      rw [hs] at hk
      rcases q with ⟨pc', ls', st', h1⟩ | ⟨m', as, rest, pc'⟩ | w
      · obtain ⟨n, v, h', he, hQ⟩ := hk
        exact ⟨n + 1, v, h', by unfold zev; rw [hs]; exact he, hQ⟩
      · obtain ⟨hd, n1, v1, h1, he1, n2, v, h', he, hQ⟩ := hk
        obtain ⟨d', rfl⟩ : ∃ j, d = j + 1 := ⟨d - 1, by omega⟩
        refine ⟨max n1 n2 + 1, v, h', ?_, hQ⟩
        unfold zev
        rw [hs]
        dsimp only
        have e1 := zev_mono X n1 (Nat.le_max_left n1 n2) he1
        rw [Nat.add_sub_cancel] at e1
        rw [e1]
        exact zev_mono X n2 (Nat.le_max_right n1 n2) he
      · exact ⟨1, w, h, by unfold zev; rw [hs], hk⟩
theorem zwp_mono {X : zX} {d : Nat} {m : zM} {pc : Nat} {ls st : List Value} {h : zH} {Q Q' : Option Value → zH → Prop} (hw : zwp X d m pc ls st h Q) (hq : ∀ v h', Q v h' → Q' v h') : zwp X d m pc ls st h Q' := by
  obtain ⟨n, v, h', he, hQ⟩ := hw
  exact ⟨n, v, h', he, hq v h' hQ⟩
theorem zw_go {X : zX} {d : Nat} {m : zM} {pc : Nat} {ls st : List Value} {h : zH} {Q : Option Value → zH → Prop} {pc' : Nat} {ls' st' : List Value} {h' : zH} (e : zstep X m pc ls st h = zgo pc' ls' st' h') : zwp X d m pc ls st h Q = zwp X d m pc' ls' st' h' Q := by
  rw [zwp_step, e]; rfl
theorem zstep_of {X : zX} {m : zM} {pc : Nat} {ls st : List Value} {h : zH} {i : Instr} {len : Nat} (hd : decode m.2.2.1 pc = .ok (i, len)) : zstep X m pc ls st h = zins X m i len pc ls st h := by
  unfold zstep; rw [hd]
