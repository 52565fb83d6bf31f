def Sim_setBox (Rl : S → S → Prop) : Prop := ∀ (u w : S) (a0 a1 a2 : Int32), Rl u w → ∃ (r : Int32) (u' : S) (w' : S), fX6_setBox a0 a1 a2 u = some (r, u') ∧ fX7_setBox a0 a1 a2 w = some (r, w') ∧ Rl u' w'
def Sim_setShare (Rl : S → S → Prop) : Prop := ∀ (u w : S) (a0 : Int32), Rl u w → ∃ (r : Int32) (u' : S) (w' : S), fX6_setShare a0 u = some (r, u') ∧ fX7_setShare a0 w = some (r, w') ∧ Rl u' w'
def Sim_type (Rl : S → S → Prop) : Prop := ∀ (u w : S) (a0 : Int32), Rl u w → ∃ (r : Int32) (u' : S) (w' : S), fX6_type a0 u = some (r, u') ∧ fX7_type a0 w = some (r, w') ∧ Rl u' w'
def Sim_clearText (Rl : S → S → Prop) : Prop := ∀ (u w : S), Rl u w → ∃ (r : Int32) (u' : S) (w' : S), fX6_clearText u = some (r, u') ∧ fX7_clearText w = some (r, w') ∧ Rl u' w'
def Sim_load (Rl : S → S → Prop) : Prop := ∀ (u w : S), Rl u w → ∃ (r : Int32) (u' : S) (w' : S), fX6_load u = some (r, u') ∧ fX7_load w = some (r, w') ∧ Rl u' w'
def Sim_faultKind (Rl : S → S → Prop) : Prop := ∀ (u w : S), Rl u w → ∃ (r : Int32), fX6_faultKind u = some r ∧ fX7_faultKind w = some r ∧ Rl u w
def Sim_add (Rl : S → S → Prop) : Prop := ∀ (u w : S) (a0 a1 a2 a3 : Int32), Rl u w → ∃ (r : Int32) (u' : S) (w' : S), fX6_add a0 a1 a2 a3 u = some (r, u') ∧ fX7_add a0 a1 a2 a3 w = some (r, w') ∧ Rl u' w'
def Sim_drop (Rl : S → S → Prop) : Prop := ∀ (u w : S) (a0 : Int32), Rl u w → ∃ (r : Int32) (u' : S) (w' : S), fX6_drop a0 u = some (r, u') ∧ fX7_drop a0 w = some (r, w') ∧ Rl u' w'
def Sim_setTray (Rl : S → S → Prop) : Prop := ∀ (u w : S) (a0 a1 a2 : Int32), Rl u w → ∃ (r : Int32) (u' : S) (w' : S), fX6_setTray a0 a1 a2 u = some (r, u') ∧ fX7_setTray a0 a1 a2 w = some (r, w') ∧ Rl u' w'
def Sim_letDown (Rl : S → S → Prop) : Prop := ∀ (u w : S) (a0 a1 a2 a3 : Int32), Rl u w → (a3 = 0 ∨ a3 = 1) → ∃ (r : Int32) (u' : S) (w' : S), fX6_letDown a0 a1 a2 a3 u = some (r, u') ∧ fX7_letDown a0 a1 a2 a3 w = some (r, w') ∧ Rl u' w'
def Sim_takeOut (Rl : S → S → Prop) : Prop := ∀ (u w : S) (a0 : Int32), Rl u w → ∃ (r : Int32) (u' : S) (w' : S), fX6_takeOut a0 u = some (r, u') ∧ fX7_takeOut a0 w = some (r, w') ∧ Rl u' w'
def Sim_empty (Rl : S → S → Prop) : Prop := ∀ (u w : S), Rl u w → ∃ (r : Int32) (u' : S) (w' : S), fX6_empty u = some (r, u') ∧ fX7_empty w = some (r, w') ∧ Rl u' w'
def Sim_tray (Rl : S → S → Prop) : Prop := ∀ (u w : S) (a0 a1 : Int32), Rl u w → ∃ (r : Int32), fX6_tray a0 a1 u = some r ∧ fX7_tray a0 a1 w = some r ∧ Rl u w
def Sim_seen (Rl : S → S → Prop) : Prop := ∀ (u w : S) (a0 a1 a2 : Int32), Rl u w → (a2 = 0 ∨ a2 = 1) → ∃ (r : Int32), fX6_seen a0 a1 a2 u = some r ∧ fX7_seen a0 a1 a2 w = some r ∧ Rl u w
def Sim_place (Rl : S → S → Prop) : Prop := ∀ (u w : S) (a0 a1 : Int32), Rl u w → ∃ (r : Int32) (u' : S) (w' : S), fX6_place a0 a1 u = some (r, u') ∧ fX7_place a0 a1 w = some (r, w') ∧ Rl u' w'
def Sim_places (Rl : S → S → Prop) : Prop := ∀ (u w : S) (a0 : Int32), Rl u w → ∃ (r : Int32) (u' : S) (w' : S), fX6_places a0 u = some (r, u') ∧ fX7_places a0 w = some (r, w') ∧ Rl u' w'
def Sim_pack (Rl : S → S → Prop) : Prop := ∀ (u w : S), Rl u w → ∃ (r : Int32) (u' : S) (w' : S), fX6_pack u = some (r, u') ∧ fX7_pack w = some (r, w') ∧ Rl u' w'
def Sim_packBest (Rl : S → S → Prop) : Prop := ∀ (u w : S), Rl u w → ∃ (r : Int32) (u' : S) (w' : S), fX6_packBest u = some (r, u') ∧ fX7_packBest w = some (r, w') ∧ Rl u' w'
def Sim_ifPacked (Rl : S → S → Prop) : Prop := ∀ (u w : S) (a0 a1 : Int32), Rl u w → (a0 = 0 ∨ a0 = 1) → ∃ (r : Int32) (u' : S) (w' : S), fX6_ifPacked a0 a1 u = some (r, u') ∧ fX7_ifPacked a0 a1 w = some (r, w') ∧ Rl u' w'
def Sim_play (Rl : S → S → Prop) : Prop := ∀ (u w : S), Rl u w → ∃ (r : Int32) (u' : S) (w' : S), fX6_play u = some (r, u') ∧ fX7_play w = some (r, w') ∧ Rl u' w'
def Sim_liftsTo (Rl : S → S → Prop) : Prop := ∀ (u w : S) (a0 : Int32), Rl u w → ∃ (r : Int32) (w' : S), fX6_liftsTo a0 u = some r ∧ fX7_liftsTo a0 w = some (r, w') ∧ Rl u w'
def Sim_undo (Rl : S → S → Prop) : Prop := ∀ (u w : S), Rl u w → ∃ (r : Int32) (u' : S) (w' : S), fX6_undo u = some (r, u') ∧ fX7_undo w = some (r, w') ∧ Rl u' w'
def Sim_count (Rl : S → S → Prop) : Prop := ∀ (u w : S) (a0 : Int32), Rl u w → ∃ (r : Int32), fX6_count a0 u = some r ∧ fX7_count a0 w = some r ∧ Rl u w
def Sim_digest (Rl : S → S → Prop) : Prop := ∀ (u w : S), Rl u w → ∃ (r : Int64) (u' : S) (w' : S), fX6_digest u = some (r, u') ∧ fX7_digest w = some (r, w') ∧ Rl u' w'
