final class Model { }
