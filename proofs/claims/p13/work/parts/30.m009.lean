section
def pkW (w : List Int32) : Nat := pk (fun m => w.getD m 0) 0 w.length
end
