section
variable {N : Nat} {S : Hp} {m : Nat} {g : Nat → Nat} {A : Ab}
def rplB (B : Bd) (r : Nat) : Int32 := if bwin B = 0 then rpB B r else -1
end
